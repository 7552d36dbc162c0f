theorem dX0_init_0 : decode cX0_init 0 = .ok (.aload_n 0, 1) := by decide +kernel
theorem dX0_init_1 : decode cX0_init 1 = .ok (.invokespecial 3, 3) := by decide +kernel
theorem dX0_init_4 : decode cX0_init 4 = .ok (.aload_n 0, 1) := by decide +kernel
theorem dX0_init_5 : decode cX0_init 5 = .ok (.bipush 7, 2) := by decide +kernel
theorem dX0_init_7 : decode cX0_init 7 = .ok (.newarray .int, 2) := by decide +kernel
theorem dX0_init_9 : decode cX0_init 9 = .ok (.putfield 9, 3) := by decide +kernel
theorem dX0_init_12 : decode cX0_init 12 = .ok (.aload_n 0, 1) := by decide +kernel
theorem dX0_init_13 : decode cX0_init 13 = .ok (.iconst 0, 1) := by decide +kernel
theorem dX0_init_14 : decode cX0_init 14 = .ok (.putfield 15, 3) := by decide +kernel
theorem dX0_init_17 : decode cX0_init 17 = .ok (.return_, 1) := by decide +kernel
theorem dX0_lay_0 : decode cX0_lay 0 = .ok (.iload_n 2, 1) := by decide +kernel
theorem dX0_lay_1 : decode cX0_lay 1 = .ok (.bipush 7, 2) := by decide +kernel
theorem dX0_lay_3 : decode cX0_lay 3 = .ok (.idiv, 1) := by decide +kernel
theorem dX0_lay_4 : decode cX0_lay 4 = .ok (.istore 4, 2) := by decide +kernel
theorem dX0_lay_6 : decode cX0_lay 6 = .ok (.iload_n 2, 1) := by decide +kernel
theorem dX0_lay_7 : decode cX0_lay 7 = .ok (.bipush 7, 2) := by decide +kernel
theorem dX0_lay_9 : decode cX0_lay 9 = .ok (.irem, 1) := by decide +kernel
theorem dX0_lay_10 : decode cX0_lay 10 = .ok (.istore 5, 2) := by decide +kernel
theorem dX0_lay_12 : decode cX0_lay 12 = .ok (.iload_n 3, 1) := by decide +kernel
theorem dX0_lay_13 : decode cX0_lay 13 = .ok (.bipush 7, 2) := by decide +kernel
theorem dX0_lay_15 : decode cX0_lay 15 = .ok (.idiv, 1) := by decide +kernel
theorem dX0_lay_16 : decode cX0_lay 16 = .ok (.iload 4, 2) := by decide +kernel
theorem dX0_lay_18 : decode cX0_lay 18 = .ok (.isub, 1) := by decide +kernel
theorem dX0_lay_19 : decode cX0_lay 19 = .ok (.istore 6, 2) := by decide +kernel
theorem dX0_lay_21 : decode cX0_lay 21 = .ok (.iload_n 3, 1) := by decide +kernel
theorem dX0_lay_22 : decode cX0_lay 22 = .ok (.bipush 7, 2) := by decide +kernel
theorem dX0_lay_24 : decode cX0_lay 24 = .ok (.irem, 1) := by decide +kernel
theorem dX0_lay_25 : decode cX0_lay 25 = .ok (.iload 5, 2) := by decide +kernel
theorem dX0_lay_27 : decode cX0_lay 27 = .ok (.isub, 1) := by decide +kernel
theorem dX0_lay_28 : decode cX0_lay 28 = .ok (.istore 7, 2) := by decide +kernel
theorem dX0_lay_30 : decode cX0_lay 30 = .ok (.aload_n 0, 1) := by decide +kernel
theorem dX0_lay_31 : decode cX0_lay 31 = .ok (.bipush 6, 2) := by decide +kernel
theorem dX0_lay_33 : decode cX0_lay 33 = .ok (.iload 6, 2) := by decide +kernel
theorem dX0_lay_35 : decode cX0_lay 35 = .ok (.invokestatic 19, 3) := by decide +kernel
theorem dX0_lay_38 : decode cX0_lay 38 = .ok (.iload 7, 2) := by decide +kernel
theorem dX0_lay_40 : decode cX0_lay 40 = .ok (.invokestatic 19, 3) := by decide +kernel
theorem dX0_lay_43 : decode cX0_lay 43 = .ok (.invokestatic 25, 3) := by decide +kernel
theorem dX0_lay_46 : decode cX0_lay 46 = .ok (.invokestatic 29, 3) := by decide +kernel
theorem dX0_lay_49 : decode cX0_lay 49 = .ok (.putfield 15, 3) := by decide +kernel
theorem dX0_lay_52 : decode cX0_lay 52 = .ok (.iconst 0, 1) := by decide +kernel
theorem dX0_lay_53 : decode cX0_lay 53 = .ok (.istore 8, 2) := by decide +kernel
theorem dX0_lay_55 : decode cX0_lay 55 = .ok (.iload 8, 2) := by decide +kernel
theorem dX0_lay_57 : decode cX0_lay 57 = .ok (.aload_n 0, 1) := by decide +kernel
theorem dX0_lay_58 : decode cX0_lay 58 = .ok (.getfield 15, 3) := by decide +kernel
theorem dX0_lay_61 : decode cX0_lay 61 = .ok (.if_icmp .gt 50, 3) := by decide +kernel
theorem dX0_lay_64 : decode cX0_lay 64 = .ok (.iload 8, 2) := by decide +kernel
theorem dX0_lay_66 : decode cX0_lay 66 = .ok (.bipush 7, 2) := by decide +kernel
theorem dX0_lay_68 : decode cX0_lay 68 = .ok (.if_icmp .ge 43, 3) := by decide +kernel
theorem dX0_lay_71 : decode cX0_lay 71 = .ok (.aload_n 0, 1) := by decide +kernel
theorem dX0_lay_72 : decode cX0_lay 72 = .ok (.getfield 9, 3) := by decide +kernel
theorem dX0_lay_75 : decode cX0_lay 75 = .ok (.iload 8, 2) := by decide +kernel
theorem dX0_lay_77 : decode cX0_lay 77 = .ok (.aload_n 1, 1) := by decide +kernel
theorem dX0_lay_78 : decode cX0_lay 78 = .ok (.aload_n 0, 1) := by decide +kernel
theorem dX0_lay_79 : decode cX0_lay 79 = .ok (.iload 4, 2) := by decide +kernel
theorem dX0_lay_81 : decode cX0_lay 81 = .ok (.iload 6, 2) := by decide +kernel
theorem dX0_lay_83 : decode cX0_lay 83 = .ok (.iload 8, 2) := by decide +kernel
theorem dX0_lay_85 : decode cX0_lay 85 = .ok (.invokevirtual 32, 3) := by decide +kernel
theorem dX0_lay_88 : decode cX0_lay 88 = .ok (.aload_n 0, 1) := by decide +kernel
theorem dX0_lay_89 : decode cX0_lay 89 = .ok (.iload 5, 2) := by decide +kernel
theorem dX0_lay_91 : decode cX0_lay 91 = .ok (.iload 7, 2) := by decide +kernel
theorem dX0_lay_93 : decode cX0_lay 93 = .ok (.iload 8, 2) := by decide +kernel
theorem dX0_lay_95 : decode cX0_lay 95 = .ok (.invokevirtual 32, 3) := by decide +kernel
theorem dX0_lay_98 : decode cX0_lay 98 = .ok (.invokestatic 36, 3) := by decide +kernel
theorem dX0_lay_101 : decode cX0_lay 101 = .ok (.invokevirtual 39, 3) := by decide +kernel
theorem dX0_lay_104 : decode cX0_lay 104 = .ok (.iastore, 1) := by decide +kernel
theorem dX0_lay_105 : decode cX0_lay 105 = .ok (.iinc 8 1, 3) := by decide +kernel
theorem dX0_lay_108 : decode cX0_lay 108 = .ok (.goto (-53), 3) := by decide +kernel
theorem dX0_lay_111 : decode cX0_lay 111 = .ok (.return_, 1) := by decide +kernel
theorem dX0_along_0 : decode cX0_along 0 = .ok (.aload_n 0, 1) := by decide +kernel
theorem dX0_along_1 : decode cX0_along 1 = .ok (.getfield 15, 3) := by decide +kernel
theorem dX0_along_4 : decode cX0_along 4 = .ok (.ifCond .gt 5, 3) := by decide +kernel
theorem dX0_along_7 : decode cX0_along 7 = .ok (.iload_n 1, 1) := by decide +kernel
theorem dX0_along_8 : decode cX0_along 8 = .ok (.ireturn, 1) := by decide +kernel
theorem dX0_along_9 : decode cX0_along 9 = .ok (.iconst 2, 1) := by decide +kernel
theorem dX0_along_10 : decode cX0_along 10 = .ok (.aload_n 0, 1) := by decide +kernel
theorem dX0_along_11 : decode cX0_along 11 = .ok (.getfield 15, 3) := by decide +kernel
theorem dX0_along_14 : decode cX0_along 14 = .ok (.imul, 1) := by decide +kernel
theorem dX0_along_15 : decode cX0_along 15 = .ok (.iload_n 1, 1) := by decide +kernel
theorem dX0_along_16 : decode cX0_along 16 = .ok (.imul, 1) := by decide +kernel
theorem dX0_along_17 : decode cX0_along 17 = .ok (.iconst 2, 1) := by decide +kernel
theorem dX0_along_18 : decode cX0_along 18 = .ok (.iload_n 3, 1) := by decide +kernel
theorem dX0_along_19 : decode cX0_along 19 = .ok (.imul, 1) := by decide +kernel
theorem dX0_along_20 : decode cX0_along 20 = .ok (.iload_n 2, 1) := by decide +kernel
theorem dX0_along_21 : decode cX0_along 21 = .ok (.imul, 1) := by decide +kernel
theorem dX0_along_22 : decode cX0_along 22 = .ok (.iadd, 1) := by decide +kernel
theorem dX0_along_23 : decode cX0_along 23 = .ok (.aload_n 0, 1) := by decide +kernel
theorem dX0_along_24 : decode cX0_along 24 = .ok (.getfield 15, 3) := by decide +kernel
theorem dX0_along_27 : decode cX0_along 27 = .ok (.iadd, 1) := by decide +kernel
theorem dX0_along_28 : decode cX0_along 28 = .ok (.iconst 2, 1) := by decide +kernel
theorem dX0_along_29 : decode cX0_along 29 = .ok (.aload_n 0, 1) := by decide +kernel
theorem dX0_along_30 : decode cX0_along 30 = .ok (.getfield 15, 3) := by decide +kernel
theorem dX0_along_33 : decode cX0_along 33 = .ok (.imul, 1) := by decide +kernel
theorem dX0_along_34 : decode cX0_along 34 = .ok (.invokestatic 44, 3) := by decide +kernel
theorem dX0_along_37 : decode cX0_along 37 = .ok (.ireturn, 1) := by decide +kernel
theorem dX0_last_0 : decode cX0_last 0 = .ok (.aload_n 0, 1) := by decide +kernel
theorem dX0_last_1 : decode cX0_last 1 = .ok (.getfield 15, 3) := by decide +kernel
theorem dX0_last_4 : decode cX0_last 4 = .ok (.ireturn, 1) := by decide +kernel
theorem dX0_height_0 : decode cX0_height 0 = .ok (.iload_n 1, 1) := by decide +kernel
theorem dX0_height_1 : decode cX0_height 1 = .ok (.ifCond .lt 26, 3) := by decide +kernel
theorem dX0_height_4 : decode cX0_height 4 = .ok (.iload_n 1, 1) := by decide +kernel
theorem dX0_height_5 : decode cX0_height 5 = .ok (.aload_n 0, 1) := by decide +kernel
theorem dX0_height_6 : decode cX0_height 6 = .ok (.getfield 15, 3) := by decide +kernel
theorem dX0_height_9 : decode cX0_height 9 = .ok (.if_icmp .gt 18, 3) := by decide +kernel
theorem dX0_height_12 : decode cX0_height 12 = .ok (.iload_n 1, 1) := by decide +kernel
theorem dX0_height_13 : decode cX0_height 13 = .ok (.bipush 7, 2) := by decide +kernel
theorem dX0_height_15 : decode cX0_height 15 = .ok (.if_icmp .ge 12, 3) := by decide +kernel
theorem dX0_height_18 : decode cX0_height 18 = .ok (.aload_n 0, 1) := by decide +kernel
theorem dX0_height_19 : decode cX0_height 19 = .ok (.getfield 9, 3) := by decide +kernel
theorem dX0_height_22 : decode cX0_height 22 = .ok (.iload_n 1, 1) := by decide +kernel
theorem dX0_height_23 : decode cX0_height 23 = .ok (.iaload, 1) := by decide +kernel
theorem dX0_height_24 : decode cX0_height 24 = .ok (.goto 4, 3) := by decide +kernel
theorem dX0_height_27 : decode cX0_height 27 = .ok (.iconst 0, 1) := by decide +kernel
theorem dX0_height_28 : decode cX0_height 28 = .ok (.ireturn, 1) := by decide +kernel
theorem dX0_rise_0 : decode cX0_rise 0 = .ok (.iconst 0, 1) := by decide +kernel
theorem dX0_rise_1 : decode cX0_rise 1 = .ok (.istore_n 1, 1) := by decide +kernel
theorem dX0_rise_2 : decode cX0_rise 2 = .ok (.iconst 1, 1) := by decide +kernel
theorem dX0_rise_3 : decode cX0_rise 3 = .ok (.istore_n 2, 1) := by decide +kernel
theorem dX0_rise_4 : decode cX0_rise 4 = .ok (.iload_n 2, 1) := by decide +kernel
theorem dX0_rise_5 : decode cX0_rise 5 = .ok (.aload_n 0, 1) := by decide +kernel
theorem dX0_rise_6 : decode cX0_rise 6 = .ok (.getfield 15, 3) := by decide +kernel
theorem dX0_rise_9 : decode cX0_rise 9 = .ok (.if_icmp .gt 29, 3) := by decide +kernel
theorem dX0_rise_12 : decode cX0_rise 12 = .ok (.iload_n 1, 1) := by decide +kernel
theorem dX0_rise_13 : decode cX0_rise 13 = .ok (.iconst 0, 1) := by decide +kernel
theorem dX0_rise_14 : decode cX0_rise 14 = .ok (.aload_n 0, 1) := by decide +kernel
theorem dX0_rise_15 : decode cX0_rise 15 = .ok (.iload_n 2, 1) := by decide +kernel
theorem dX0_rise_16 : decode cX0_rise 16 = .ok (.invokevirtual 47, 3) := by decide +kernel
theorem dX0_rise_19 : decode cX0_rise 19 = .ok (.aload_n 0, 1) := by decide +kernel
theorem dX0_rise_20 : decode cX0_rise 20 = .ok (.iload_n 2, 1) := by decide +kernel
theorem dX0_rise_21 : decode cX0_rise 21 = .ok (.iconst 1, 1) := by decide +kernel
theorem dX0_rise_22 : decode cX0_rise 22 = .ok (.isub, 1) := by decide +kernel
theorem dX0_rise_23 : decode cX0_rise 23 = .ok (.invokevirtual 47, 3) := by decide +kernel
theorem dX0_rise_26 : decode cX0_rise 26 = .ok (.isub, 1) := by decide +kernel
theorem dX0_rise_27 : decode cX0_rise 27 = .ok (.invokestatic 25, 3) := by decide +kernel
theorem dX0_rise_30 : decode cX0_rise 30 = .ok (.iadd, 1) := by decide +kernel
theorem dX0_rise_31 : decode cX0_rise 31 = .ok (.istore_n 1, 1) := by decide +kernel
theorem dX0_rise_32 : decode cX0_rise 32 = .ok (.iinc 2 1, 3) := by decide +kernel
theorem dX0_rise_35 : decode cX0_rise 35 = .ok (.goto (-31), 3) := by decide +kernel
theorem dX0_rise_38 : decode cX0_rise 38 = .ok (.iload_n 1, 1) := by decide +kernel
theorem dX0_rise_39 : decode cX0_rise 39 = .ok (.ireturn, 1) := by decide +kernel
theorem dX0_top_0 : decode cX0_top 0 = .ok (.iconst 0, 1) := by decide +kernel
theorem dX0_top_1 : decode cX0_top 1 = .ok (.istore_n 1, 1) := by decide +kernel
theorem dX0_top_2 : decode cX0_top 2 = .ok (.iconst 0, 1) := by decide +kernel
theorem dX0_top_3 : decode cX0_top 3 = .ok (.istore_n 2, 1) := by decide +kernel
theorem dX0_top_4 : decode cX0_top 4 = .ok (.iload_n 2, 1) := by decide +kernel
theorem dX0_top_5 : decode cX0_top 5 = .ok (.aload_n 0, 1) := by decide +kernel
theorem dX0_top_6 : decode cX0_top 6 = .ok (.getfield 15, 3) := by decide +kernel
theorem dX0_top_9 : decode cX0_top 9 = .ok (.if_icmp .gt 19, 3) := by decide +kernel
theorem dX0_top_12 : decode cX0_top 12 = .ok (.iload_n 1, 1) := by decide +kernel
theorem dX0_top_13 : decode cX0_top 13 = .ok (.aload_n 0, 1) := by decide +kernel
theorem dX0_top_14 : decode cX0_top 14 = .ok (.iload_n 2, 1) := by decide +kernel
theorem dX0_top_15 : decode cX0_top 15 = .ok (.invokevirtual 47, 3) := by decide +kernel
theorem dX0_top_18 : decode cX0_top 18 = .ok (.invokestatic 25, 3) := by decide +kernel
theorem dX0_top_21 : decode cX0_top 21 = .ok (.istore_n 1, 1) := by decide +kernel
theorem dX0_top_22 : decode cX0_top 22 = .ok (.iinc 2 1, 3) := by decide +kernel
theorem dX0_top_25 : decode cX0_top 25 = .ok (.goto (-21), 3) := by decide +kernel
theorem dX0_top_28 : decode cX0_top 28 = .ok (.iload_n 1, 1) := by decide +kernel
theorem dX0_top_29 : decode cX0_top 29 = .ok (.ireturn, 1) := by decide +kernel
theorem dX0_isClear_0 : decode cX0_isClear 0 = .ok (.iconst 1, 1) := by decide +kernel
theorem dX0_isClear_1 : decode cX0_isClear 1 = .ok (.istore_n 1, 1) := by decide +kernel
theorem dX0_isClear_2 : decode cX0_isClear 2 = .ok (.iload_n 1, 1) := by decide +kernel
theorem dX0_isClear_3 : decode cX0_isClear 3 = .ok (.aload_n 0, 1) := by decide +kernel
theorem dX0_isClear_4 : decode cX0_isClear 4 = .ok (.getfield 15, 3) := by decide +kernel
theorem dX0_isClear_7 : decode cX0_isClear 7 = .ok (.if_icmp .ge 47, 3) := by decide +kernel
theorem dX0_isClear_10 : decode cX0_isClear 10 = .ok (.aload_n 0, 1) := by decide +kernel
theorem dX0_isClear_11 : decode cX0_isClear 11 = .ok (.iload_n 1, 1) := by decide +kernel
theorem dX0_isClear_12 : decode cX0_isClear 12 = .ok (.invokevirtual 47, 3) := by decide +kernel
theorem dX0_isClear_15 : decode cX0_isClear 15 = .ok (.aload_n 0, 1) := by decide +kernel
theorem dX0_isClear_16 : decode cX0_isClear 16 = .ok (.getfield 15, 3) := by decide +kernel
theorem dX0_isClear_19 : decode cX0_isClear 19 = .ok (.imul, 1) := by decide +kernel
theorem dX0_isClear_20 : decode cX0_isClear 20 = .ok (.aload_n 0, 1) := by decide +kernel
theorem dX0_isClear_21 : decode cX0_isClear 21 = .ok (.getfield 15, 3) := by decide +kernel
theorem dX0_isClear_24 : decode cX0_isClear 24 = .ok (.iload_n 1, 1) := by decide +kernel
theorem dX0_isClear_25 : decode cX0_isClear 25 = .ok (.isub, 1) := by decide +kernel
theorem dX0_isClear_26 : decode cX0_isClear 26 = .ok (.aload_n 0, 1) := by decide +kernel
theorem dX0_isClear_27 : decode cX0_isClear 27 = .ok (.iconst 0, 1) := by decide +kernel
theorem dX0_isClear_28 : decode cX0_isClear 28 = .ok (.invokevirtual 47, 3) := by decide +kernel
theorem dX0_isClear_31 : decode cX0_isClear 31 = .ok (.imul, 1) := by decide +kernel
theorem dX0_isClear_32 : decode cX0_isClear 32 = .ok (.iload_n 1, 1) := by decide +kernel
theorem dX0_isClear_33 : decode cX0_isClear 33 = .ok (.aload_n 0, 1) := by decide +kernel
theorem dX0_isClear_34 : decode cX0_isClear 34 = .ok (.aload_n 0, 1) := by decide +kernel
theorem dX0_isClear_35 : decode cX0_isClear 35 = .ok (.getfield 15, 3) := by decide +kernel
theorem dX0_isClear_38 : decode cX0_isClear 38 = .ok (.invokevirtual 47, 3) := by decide +kernel
theorem dX0_isClear_41 : decode cX0_isClear 41 = .ok (.imul, 1) := by decide +kernel
theorem dX0_isClear_42 : decode cX0_isClear 42 = .ok (.iadd, 1) := by decide +kernel
theorem dX0_isClear_43 : decode cX0_isClear 43 = .ok (.if_icmp .le 5, 3) := by decide +kernel
theorem dX0_isClear_46 : decode cX0_isClear 46 = .ok (.iconst 0, 1) := by decide +kernel
theorem dX0_isClear_47 : decode cX0_isClear 47 = .ok (.ireturn, 1) := by decide +kernel
theorem dX0_isClear_48 : decode cX0_isClear 48 = .ok (.iinc 1 1, 3) := by decide +kernel
theorem dX0_isClear_51 : decode cX0_isClear 51 = .ok (.goto (-49), 3) := by decide +kernel
theorem dX0_isClear_54 : decode cX0_isClear 54 = .ok (.iconst 1, 1) := by decide +kernel
theorem dX0_isClear_55 : decode cX0_isClear 55 = .ok (.ireturn, 1) := by decide +kernel
theorem dX1_init_0 : decode cX1_init 0 = .ok (.aload_n 0, 1) := by decide +kernel
theorem dX1_init_1 : decode cX1_init 1 = .ok (.invokespecial 3, 3) := by decide +kernel
theorem dX1_init_4 : decode cX1_init 4 = .ok (.aload_n 0, 1) := by decide +kernel
theorem dX1_init_5 : decode cX1_init 5 = .ok (.sipush 294, 3) := by decide +kernel
theorem dX1_init_8 : decode cX1_init 8 = .ok (.newarray .int, 2) := by decide +kernel
theorem dX1_init_10 : decode cX1_init 10 = .ok (.putfield 9, 3) := by decide +kernel
theorem dX1_init_13 : decode cX1_init 13 = .ok (.aload_n 0, 1) := by decide +kernel
theorem dX1_init_14 : decode cX1_init 14 = .ok (.bipush 98, 2) := by decide +kernel
theorem dX1_init_16 : decode cX1_init 16 = .ok (.newarray .int, 2) := by decide +kernel
theorem dX1_init_18 : decode cX1_init 18 = .ok (.putfield 15, 3) := by decide +kernel
theorem dX1_init_21 : decode cX1_init 21 = .ok (.aload_n 0, 1) := by decide +kernel
theorem dX1_init_22 : decode cX1_init 22 = .ok (.iconst 2, 1) := by decide +kernel
theorem dX1_init_23 : decode cX1_init 23 = .ok (.newarray .boolean, 2) := by decide +kernel
theorem dX1_init_25 : decode cX1_init 25 = .ok (.putfield 18, 3) := by decide +kernel
theorem dX1_init_28 : decode cX1_init 28 = .ok (.aload_n 0, 1) := by decide +kernel
theorem dX1_init_29 : decode cX1_init 29 = .ok (.iconst 0, 1) := by decide +kernel
theorem dX1_init_30 : decode cX1_init 30 = .ok (.putfield 22, 3) := by decide +kernel
theorem dX1_init_33 : decode cX1_init 33 = .ok (.return_, 1) := by decide +kernel
theorem dX1_save_0 : decode cX1_save 0 = .ok (.aload_n 0, 1) := by decide +kernel
theorem dX1_save_1 : decode cX1_save 1 = .ok (.getfield 22, 3) := by decide +kernel
theorem dX1_save_4 : decode cX1_save 4 = .ok (.bipush 6, 2) := by decide +kernel
theorem dX1_save_6 : decode cX1_save 6 = .ok (.if_icmp .lt 25, 3) := by decide +kernel
theorem dX1_save_9 : decode cX1_save 9 = .ok (.aload_n 0, 1) := by decide +kernel
theorem dX1_save_10 : decode cX1_save 10 = .ok (.getfield 9, 3) := by decide +kernel
theorem dX1_save_13 : decode cX1_save 13 = .ok (.bipush 49, 2) := by decide +kernel
theorem dX1_save_15 : decode cX1_save 15 = .ok (.aload_n 0, 1) := by decide +kernel
theorem dX1_save_16 : decode cX1_save 16 = .ok (.getfield 9, 3) := by decide +kernel
theorem dX1_save_19 : decode cX1_save 19 = .ok (.iconst 0, 1) := by decide +kernel
theorem dX1_save_20 : decode cX1_save 20 = .ok (.sipush 245, 3) := by decide +kernel
theorem dX1_save_23 : decode cX1_save 23 = .ok (.invokestatic 26, 3) := by decide +kernel
theorem dX1_save_26 : decode cX1_save 26 = .ok (.aload_n 0, 1) := by decide +kernel
theorem dX1_save_27 : decode cX1_save 27 = .ok (.iconst 5, 1) := by decide +kernel
theorem dX1_save_28 : decode cX1_save 28 = .ok (.putfield 22, 3) := by decide +kernel
theorem dX1_save_31 : decode cX1_save 31 = .ok (.aload_n 1, 1) := by decide +kernel
theorem dX1_save_32 : decode cX1_save 32 = .ok (.aload_n 0, 1) := by decide +kernel
theorem dX1_save_33 : decode cX1_save 33 = .ok (.getfield 9, 3) := by decide +kernel
theorem dX1_save_36 : decode cX1_save 36 = .ok (.aload_n 0, 1) := by decide +kernel
theorem dX1_save_37 : decode cX1_save 37 = .ok (.getfield 22, 3) := by decide +kernel
theorem dX1_save_40 : decode cX1_save 40 = .ok (.invokevirtual 32, 3) := by decide +kernel
theorem dX1_save_43 : decode cX1_save 43 = .ok (.aload_n 0, 1) := by decide +kernel
theorem dX1_save_44 : decode cX1_save 44 = .ok (.dup, 1) := by decide +kernel
theorem dX1_save_45 : decode cX1_save 45 = .ok (.getfield 22, 3) := by decide +kernel
theorem dX1_save_48 : decode cX1_save 48 = .ok (.iconst 1, 1) := by decide +kernel
theorem dX1_save_49 : decode cX1_save 49 = .ok (.iadd, 1) := by decide +kernel
theorem dX1_save_50 : decode cX1_save 50 = .ok (.putfield 22, 3) := by decide +kernel
theorem dX1_save_53 : decode cX1_save 53 = .ok (.return_, 1) := by decide +kernel
theorem dX2_init_0 : decode cX2_init 0 = .ok (.aload_n 0, 1) := by decide +kernel
theorem dX2_init_1 : decode cX2_init 1 = .ok (.invokespecial 3, 3) := by decide +kernel
theorem dX2_init_4 : decode cX2_init 4 = .ok (.aload_n 0, 1) := by decide +kernel
theorem dX2_init_5 : decode cX2_init 5 = .ok (.bipush 49, 2) := by decide +kernel
theorem dX2_init_7 : decode cX2_init 7 = .ok (.newarray .boolean, 2) := by decide +kernel
theorem dX2_init_9 : decode cX2_init 9 = .ok (.putfield 9, 3) := by decide +kernel
theorem dX2_init_12 : decode cX2_init 12 = .ok (.aload_n 0, 1) := by decide +kernel
theorem dX2_init_13 : decode cX2_init 13 = .ok (.bipush 72, 2) := by decide +kernel
theorem dX2_init_15 : decode cX2_init 15 = .ok (.newarray .int, 2) := by decide +kernel
theorem dX2_init_17 : decode cX2_init 17 = .ok (.putfield 15, 3) := by decide +kernel
theorem dX2_init_20 : decode cX2_init 20 = .ok (.aload_n 0, 1) := by decide +kernel
theorem dX2_init_21 : decode cX2_init 21 = .ok (.bipush 72, 2) := by decide +kernel
theorem dX2_init_23 : decode cX2_init 23 = .ok (.newarray .int, 2) := by decide +kernel
theorem dX2_init_25 : decode cX2_init 25 = .ok (.putfield 19, 3) := by decide +kernel
theorem dX2_init_28 : decode cX2_init 28 = .ok (.aload_n 0, 1) := by decide +kernel
theorem dX2_init_29 : decode cX2_init 29 = .ok (.bipush 72, 2) := by decide +kernel
theorem dX2_init_31 : decode cX2_init 31 = .ok (.newarray .boolean, 2) := by decide +kernel
theorem dX2_init_33 : decode cX2_init 33 = .ok (.putfield 22, 3) := by decide +kernel
theorem dX2_init_36 : decode cX2_init 36 = .ok (.aload_n 0, 1) := by decide +kernel
theorem dX2_init_37 : decode cX2_init 37 = .ok (.bipush 84, 2) := by decide +kernel
theorem dX2_init_39 : decode cX2_init 39 = .ok (.newarray .int, 2) := by decide +kernel
theorem dX2_init_41 : decode cX2_init 41 = .ok (.putfield 25, 3) := by decide +kernel
theorem dX2_init_44 : decode cX2_init 44 = .ok (.aload_n 0, 1) := by decide +kernel
theorem dX2_init_45 : decode cX2_init 45 = .ok (.bipush 84, 2) := by decide +kernel
theorem dX2_init_47 : decode cX2_init 47 = .ok (.newarray .int, 2) := by decide +kernel
theorem dX2_init_49 : decode cX2_init 49 = .ok (.putfield 28, 3) := by decide +kernel
theorem dX2_init_52 : decode cX2_init 52 = .ok (.aload_n 0, 1) := by decide +kernel
theorem dX2_init_53 : decode cX2_init 53 = .ok (.iconst 0, 1) := by decide +kernel
theorem dX2_init_54 : decode cX2_init 54 = .ok (.putfield 31, 3) := by decide +kernel
theorem dX2_init_57 : decode cX2_init 57 = .ok (.aload_n 0, 1) := by decide +kernel
theorem dX2_init_58 : decode cX2_init 58 = .ok (.iconst 0, 1) := by decide +kernel
theorem dX2_init_59 : decode cX2_init 59 = .ok (.putfield 35, 3) := by decide +kernel
theorem dX2_init_62 : decode cX2_init 62 = .ok (.aload_n 0, 1) := by decide +kernel
theorem dX2_init_63 : decode cX2_init 63 = .ok (.iconst 0, 1) := by decide +kernel
theorem dX2_init_64 : decode cX2_init 64 = .ok (.putfield 38, 3) := by decide +kernel
theorem dX2_init_67 : decode cX2_init 67 = .ok (.aload_n 0, 1) := by decide +kernel
theorem dX2_init_68 : decode cX2_init 68 = .ok (.iconst 0, 1) := by decide +kernel
theorem dX2_init_69 : decode cX2_init 69 = .ok (.putfield 41, 3) := by decide +kernel
theorem dX2_init_72 : decode cX2_init 72 = .ok (.return_, 1) := by decide +kernel
theorem dX2_read_0 : decode cX2_read 0 = .ok (.iconst 0, 1) := by decide +kernel
theorem dX2_read_1 : decode cX2_read 1 = .ok (.istore_n 3, 1) := by decide +kernel
theorem dX2_read_2 : decode cX2_read 2 = .ok (.iload_n 3, 1) := by decide +kernel
theorem dX2_read_3 : decode cX2_read 3 = .ok (.bipush 49, 2) := by decide +kernel
theorem dX2_read_5 : decode cX2_read 5 = .ok (.if_icmp .ge 29, 3) := by decide +kernel
theorem dX2_read_8 : decode cX2_read 8 = .ok (.aload_n 0, 1) := by decide +kernel
theorem dX2_read_9 : decode cX2_read 9 = .ok (.getfield 9, 3) := by decide +kernel
theorem dX2_read_12 : decode cX2_read 12 = .ok (.iload_n 3, 1) := by decide +kernel
theorem dX2_read_13 : decode cX2_read 13 = .ok (.aload_n 1, 1) := by decide +kernel
theorem dX2_read_14 : decode cX2_read 14 = .ok (.iload_n 3, 1) := by decide +kernel
theorem dX2_read_15 : decode cX2_read 15 = .ok (.invokevirtual 44, 3) := by decide +kernel
theorem dX2_read_18 : decode cX2_read 18 = .ok (.iload_n 2, 1) := by decide +kernel
theorem dX2_read_19 : decode cX2_read 19 = .ok (.if_icmp .le 7, 3) := by decide +kernel
theorem dX2_read_22 : decode cX2_read 22 = .ok (.iconst 1, 1) := by decide +kernel
theorem dX2_read_23 : decode cX2_read 23 = .ok (.goto 4, 3) := by decide +kernel
theorem dX2_read_26 : decode cX2_read 26 = .ok (.iconst 0, 1) := by decide +kernel
theorem dX2_read_27 : decode cX2_read 27 = .ok (.bastore, 1) := by decide +kernel
theorem dX2_read_28 : decode cX2_read 28 = .ok (.iinc 3 1, 3) := by decide +kernel
theorem dX2_read_31 : decode cX2_read 31 = .ok (.goto (-29), 3) := by decide +kernel
theorem dX2_read_34 : decode cX2_read 34 = .ok (.aload_n 0, 1) := by decide +kernel
theorem dX2_read_35 : decode cX2_read 35 = .ok (.getfield 25, 3) := by decide +kernel
theorem dX2_read_38 : decode cX2_read 38 = .ok (.iconst (-1), 1) := by decide +kernel
theorem dX2_read_39 : decode cX2_read 39 = .ok (.invokestatic 50, 3) := by decide +kernel
theorem dX2_read_42 : decode cX2_read 42 = .ok (.aload_n 0, 1) := by decide +kernel
theorem dX2_read_43 : decode cX2_read 43 = .ok (.getfield 28, 3) := by decide +kernel
theorem dX2_read_46 : decode cX2_read 46 = .ok (.iconst (-1), 1) := by decide +kernel
theorem dX2_read_47 : decode cX2_read 47 = .ok (.invokestatic 50, 3) := by decide +kernel
theorem dX2_read_50 : decode cX2_read 50 = .ok (.aload_n 0, 1) := by decide +kernel
theorem dX2_read_51 : decode cX2_read 51 = .ok (.iconst 0, 1) := by decide +kernel
theorem dX2_read_52 : decode cX2_read 52 = .ok (.putfield 31, 3) := by decide +kernel
theorem dX2_read_55 : decode cX2_read 55 = .ok (.iconst 0, 1) := by decide +kernel
theorem dX2_read_56 : decode cX2_read 56 = .ok (.istore_n 3, 1) := by decide +kernel
theorem dX2_read_57 : decode cX2_read 57 = .ok (.iload_n 3, 1) := by decide +kernel
theorem dX2_read_58 : decode cX2_read 58 = .ok (.bipush 6, 2) := by decide +kernel
theorem dX2_read_60 : decode cX2_read 60 = .ok (.if_icmp .ge 32, 3) := by decide +kernel
theorem dX2_read_63 : decode cX2_read 63 = .ok (.iconst 0, 1) := by decide +kernel
theorem dX2_read_64 : decode cX2_read 64 = .ok (.istore 4, 2) := by decide +kernel
theorem dX2_read_66 : decode cX2_read 66 = .ok (.iload 4, 2) := by decide +kernel
theorem dX2_read_68 : decode cX2_read 68 = .ok (.bipush 6, 2) := by decide +kernel
theorem dX2_read_70 : decode cX2_read 70 = .ok (.if_icmp .ge 16, 3) := by decide +kernel
theorem dX2_read_73 : decode cX2_read 73 = .ok (.aload_n 0, 1) := by decide +kernel
theorem dX2_read_74 : decode cX2_read 74 = .ok (.iload_n 3, 1) := by decide +kernel
theorem dX2_read_75 : decode cX2_read 75 = .ok (.iload 4, 2) := by decide +kernel
theorem dX2_read_77 : decode cX2_read 77 = .ok (.invokevirtual 56, 3) := by decide +kernel
theorem dX2_read_80 : decode cX2_read 80 = .ok (.iinc 4 1, 3) := by decide +kernel
theorem dX2_read_83 : decode cX2_read 83 = .ok (.goto (-17), 3) := by decide +kernel
theorem dX2_read_86 : decode cX2_read 86 = .ok (.iinc 3 1, 3) := by decide +kernel
theorem dX2_read_89 : decode cX2_read 89 = .ok (.goto (-32), 3) := by decide +kernel
theorem dX2_read_92 : decode cX2_read 92 = .ok (.return_, 1) := by decide +kernel
theorem dX2_readSquare_0 : decode cX2_readSquare 0 = .ok (.aload_n 0, 1) := by decide +kernel
theorem dX2_readSquare_1 : decode cX2_readSquare 1 = .ok (.iload_n 1, 1) := by decide +kernel
theorem dX2_readSquare_2 : decode cX2_readSquare 2 = .ok (.iload_n 2, 1) := by decide +kernel
theorem dX2_readSquare_3 : decode cX2_readSquare 3 = .ok (.invokevirtual 60, 3) := by decide +kernel
theorem dX2_readSquare_6 : decode cX2_readSquare 6 = .ok (.istore_n 3, 1) := by decide +kernel
theorem dX2_readSquare_7 : decode cX2_readSquare 7 = .ok (.iload_n 3, 1) := by decide +kernel
theorem dX2_readSquare_8 : decode cX2_readSquare 8 = .ok (.iconst 4, 1) := by decide +kernel
theorem dX2_readSquare_9 : decode cX2_readSquare 9 = .ok (.if_icmp .ne 56, 3) := by decide +kernel
theorem dX2_readSquare_12 : decode cX2_readSquare 12 = .ok (.iconst 0, 1) := by decide +kernel
theorem dX2_readSquare_13 : decode cX2_readSquare 13 = .ok (.istore 4, 2) := by decide +kernel
theorem dX2_readSquare_15 : decode cX2_readSquare 15 = .ok (.iload 4, 2) := by decide +kernel
theorem dX2_readSquare_17 : decode cX2_readSquare 17 = .ok (.iconst 4, 1) := by decide +kernel
theorem dX2_readSquare_18 : decode cX2_readSquare 18 = .ok (.if_icmp .ge 44, 3) := by decide +kernel
theorem dX2_readSquare_21 : decode cX2_readSquare 21 = .ok (.aload_n 0, 1) := by decide +kernel
theorem dX2_readSquare_22 : decode cX2_readSquare 22 = .ok (.iload_n 1, 1) := by decide +kernel
theorem dX2_readSquare_23 : decode cX2_readSquare 23 = .ok (.iload_n 2, 1) := by decide +kernel
theorem dX2_readSquare_24 : decode cX2_readSquare 24 = .ok (.iload 4, 2) := by decide +kernel
theorem dX2_readSquare_26 : decode cX2_readSquare 26 = .ok (.invokevirtual 64, 3) := by decide +kernel
theorem dX2_readSquare_29 : decode cX2_readSquare 29 = .ok (.ifCond .eq 27, 3) := by decide +kernel
theorem dX2_readSquare_32 : decode cX2_readSquare 32 = .ok (.aload_n 0, 1) := by decide +kernel
theorem dX2_readSquare_33 : decode cX2_readSquare 33 = .ok (.iload_n 1, 1) := by decide +kernel
theorem dX2_readSquare_34 : decode cX2_readSquare 34 = .ok (.iload_n 2, 1) := by decide +kernel
theorem dX2_readSquare_35 : decode cX2_readSquare 35 = .ok (.iload 4, 2) := by decide +kernel
theorem dX2_readSquare_37 : decode cX2_readSquare 37 = .ok (.iconst 4, 1) := by decide +kernel
theorem dX2_readSquare_38 : decode cX2_readSquare 38 = .ok (.iadd, 1) := by decide +kernel
theorem dX2_readSquare_39 : decode cX2_readSquare 39 = .ok (.iconst 1, 1) := by decide +kernel
theorem dX2_readSquare_40 : decode cX2_readSquare 40 = .ok (.isub, 1) := by decide +kernel
theorem dX2_readSquare_41 : decode cX2_readSquare 41 = .ok (.iconst 4, 1) := by decide +kernel
theorem dX2_readSquare_42 : decode cX2_readSquare 42 = .ok (.irem, 1) := by decide +kernel
theorem dX2_readSquare_43 : decode cX2_readSquare 43 = .ok (.invokestatic 68, 3) := by decide +kernel
theorem dX2_readSquare_46 : decode cX2_readSquare 46 = .ok (.iload_n 1, 1) := by decide +kernel
theorem dX2_readSquare_47 : decode cX2_readSquare 47 = .ok (.iload_n 2, 1) := by decide +kernel
theorem dX2_readSquare_48 : decode cX2_readSquare 48 = .ok (.iload 4, 2) := by decide +kernel
theorem dX2_readSquare_50 : decode cX2_readSquare 50 = .ok (.invokestatic 68, 3) := by decide +kernel
theorem dX2_readSquare_53 : decode cX2_readSquare 53 = .ok (.invokevirtual 72, 3) := by decide +kernel
theorem dX2_readSquare_56 : decode cX2_readSquare 56 = .ok (.iinc 4 1, 3) := by decide +kernel
theorem dX2_readSquare_59 : decode cX2_readSquare 59 = .ok (.goto (-44), 3) := by decide +kernel
theorem dX2_readSquare_62 : decode cX2_readSquare 62 = .ok (.goto 67, 3) := by decide +kernel
theorem dX2_readSquare_65 : decode cX2_readSquare 65 = .ok (.iload_n 3, 1) := by decide +kernel
theorem dX2_readSquare_66 : decode cX2_readSquare 66 = .ok (.ifCond .le 63, 3) := by decide +kernel
theorem dX2_readSquare_69 : decode cX2_readSquare 69 = .ok (.iconst (-1), 1) := by decide +kernel
theorem dX2_readSquare_70 : decode cX2_readSquare 70 = .ok (.istore 4, 2) := by decide +kernel
theorem dX2_readSquare_72 : decode cX2_readSquare 72 = .ok (.iconst 0, 1) := by decide +kernel
theorem dX2_readSquare_73 : decode cX2_readSquare 73 = .ok (.istore 5, 2) := by decide +kernel
theorem dX2_readSquare_75 : decode cX2_readSquare 75 = .ok (.iload 5, 2) := by decide +kernel
theorem dX2_readSquare_77 : decode cX2_readSquare 77 = .ok (.iconst 4, 1) := by decide +kernel
theorem dX2_readSquare_78 : decode cX2_readSquare 78 = .ok (.if_icmp .ge 51, 3) := by decide +kernel
theorem dX2_readSquare_81 : decode cX2_readSquare 81 = .ok (.aload_n 0, 1) := by decide +kernel
theorem dX2_readSquare_82 : decode cX2_readSquare 82 = .ok (.iload_n 1, 1) := by decide +kernel
theorem dX2_readSquare_83 : decode cX2_readSquare 83 = .ok (.iload_n 2, 1) := by decide +kernel
theorem dX2_readSquare_84 : decode cX2_readSquare 84 = .ok (.iload 5, 2) := by decide +kernel
theorem dX2_readSquare_86 : decode cX2_readSquare 86 = .ok (.invokevirtual 75, 3) := by decide +kernel
theorem dX2_readSquare_89 : decode cX2_readSquare 89 = .ok (.ifCond .eq 34, 3) := by decide +kernel
theorem dX2_readSquare_92 : decode cX2_readSquare 92 = .ok (.iload 4, 2) := by decide +kernel
theorem dX2_readSquare_94 : decode cX2_readSquare 94 = .ok (.iconst (-1), 1) := by decide +kernel
theorem dX2_readSquare_95 : decode cX2_readSquare 95 = .ok (.if_icmp .ne 15, 3) := by decide +kernel
theorem dX2_readSquare_98 : decode cX2_readSquare 98 = .ok (.iload_n 1, 1) := by decide +kernel
theorem dX2_readSquare_99 : decode cX2_readSquare 99 = .ok (.iload_n 2, 1) := by decide +kernel
theorem dX2_readSquare_100 : decode cX2_readSquare 100 = .ok (.iload 5, 2) := by decide +kernel
theorem dX2_readSquare_102 : decode cX2_readSquare 102 = .ok (.invokestatic 68, 3) := by decide +kernel
theorem dX2_readSquare_105 : decode cX2_readSquare 105 = .ok (.istore 4, 2) := by decide +kernel
theorem dX2_readSquare_107 : decode cX2_readSquare 107 = .ok (.goto 16, 3) := by decide +kernel
theorem dX2_readSquare_110 : decode cX2_readSquare 110 = .ok (.aload_n 0, 1) := by decide +kernel
theorem dX2_readSquare_111 : decode cX2_readSquare 111 = .ok (.iload 4, 2) := by decide +kernel
theorem dX2_readSquare_113 : decode cX2_readSquare 113 = .ok (.iload_n 1, 1) := by decide +kernel
theorem dX2_readSquare_114 : decode cX2_readSquare 114 = .ok (.iload_n 2, 1) := by decide +kernel
theorem dX2_readSquare_115 : decode cX2_readSquare 115 = .ok (.iload 5, 2) := by decide +kernel
theorem dX2_readSquare_117 : decode cX2_readSquare 117 = .ok (.invokestatic 68, 3) := by decide +kernel
theorem dX2_readSquare_120 : decode cX2_readSquare 120 = .ok (.invokevirtual 72, 3) := by decide +kernel
theorem dX2_readSquare_123 : decode cX2_readSquare 123 = .ok (.iinc 5 1, 3) := by decide +kernel
theorem dX2_readSquare_126 : decode cX2_readSquare 126 = .ok (.goto (-51), 3) := by decide +kernel
theorem dX2_readSquare_129 : decode cX2_readSquare 129 = .ok (.return_, 1) := by decide +kernel
theorem dX2_crossedSides_0 : decode cX2_crossedSides 0 = .ok (.iconst 0, 1) := by decide +kernel
theorem dX2_crossedSides_1 : decode cX2_crossedSides 1 = .ok (.istore_n 3, 1) := by decide +kernel
theorem dX2_crossedSides_2 : decode cX2_crossedSides 2 = .ok (.iconst 0, 1) := by decide +kernel
theorem dX2_crossedSides_3 : decode cX2_crossedSides 3 = .ok (.istore 4, 2) := by decide +kernel
theorem dX2_crossedSides_5 : decode cX2_crossedSides 5 = .ok (.iload 4, 2) := by decide +kernel
theorem dX2_crossedSides_7 : decode cX2_crossedSides 7 = .ok (.iconst 4, 1) := by decide +kernel
theorem dX2_crossedSides_8 : decode cX2_crossedSides 8 = .ok (.if_icmp .ge 23, 3) := by decide +kernel
theorem dX2_crossedSides_11 : decode cX2_crossedSides 11 = .ok (.aload_n 0, 1) := by decide +kernel
theorem dX2_crossedSides_12 : decode cX2_crossedSides 12 = .ok (.iload_n 1, 1) := by decide +kernel
theorem dX2_crossedSides_13 : decode cX2_crossedSides 13 = .ok (.iload_n 2, 1) := by decide +kernel
theorem dX2_crossedSides_14 : decode cX2_crossedSides 14 = .ok (.iload 4, 2) := by decide +kernel
theorem dX2_crossedSides_16 : decode cX2_crossedSides 16 = .ok (.invokevirtual 75, 3) := by decide +kernel
theorem dX2_crossedSides_19 : decode cX2_crossedSides 19 = .ok (.ifCond .eq 6, 3) := by decide +kernel
theorem dX2_crossedSides_22 : decode cX2_crossedSides 22 = .ok (.iinc 3 1, 3) := by decide +kernel
theorem dX2_crossedSides_25 : decode cX2_crossedSides 25 = .ok (.iinc 4 1, 3) := by decide +kernel
theorem dX2_crossedSides_28 : decode cX2_crossedSides 28 = .ok (.goto (-23), 3) := by decide +kernel
theorem dX2_crossedSides_31 : decode cX2_crossedSides 31 = .ok (.iload_n 3, 1) := by decide +kernel
theorem dX2_crossedSides_32 : decode cX2_crossedSides 32 = .ok (.ireturn, 1) := by decide +kernel
theorem dX2_isCrossed_0 : decode cX2_isCrossed 0 = .ok (.aload_n 0, 1) := by decide +kernel
theorem dX2_isCrossed_1 : decode cX2_isCrossed 1 = .ok (.iload_n 1, 1) := by decide +kernel
theorem dX2_isCrossed_2 : decode cX2_isCrossed 2 = .ok (.iload_n 2, 1) := by decide +kernel
theorem dX2_isCrossed_3 : decode cX2_isCrossed 3 = .ok (.iload_n 3, 1) := by decide +kernel
theorem dX2_isCrossed_4 : decode cX2_isCrossed 4 = .ok (.invokevirtual 64, 3) := by decide +kernel
theorem dX2_isCrossed_7 : decode cX2_isCrossed 7 = .ok (.aload_n 0, 1) := by decide +kernel
theorem dX2_isCrossed_8 : decode cX2_isCrossed 8 = .ok (.iload_n 1, 1) := by decide +kernel
theorem dX2_isCrossed_9 : decode cX2_isCrossed 9 = .ok (.iload_n 2, 1) := by decide +kernel
theorem dX2_isCrossed_10 : decode cX2_isCrossed 10 = .ok (.iload_n 3, 1) := by decide +kernel
theorem dX2_isCrossed_11 : decode cX2_isCrossed 11 = .ok (.iconst 1, 1) := by decide +kernel
theorem dX2_isCrossed_12 : decode cX2_isCrossed 12 = .ok (.iadd, 1) := by decide +kernel
theorem dX2_isCrossed_13 : decode cX2_isCrossed 13 = .ok (.iconst 4, 1) := by decide +kernel
theorem dX2_isCrossed_14 : decode cX2_isCrossed 14 = .ok (.irem, 1) := by decide +kernel
theorem dX2_isCrossed_15 : decode cX2_isCrossed 15 = .ok (.invokevirtual 64, 3) := by decide +kernel
theorem dX2_isCrossed_18 : decode cX2_isCrossed 18 = .ok (.if_icmp .eq 7, 3) := by decide +kernel
theorem dX2_isCrossed_21 : decode cX2_isCrossed 21 = .ok (.iconst 1, 1) := by decide +kernel
theorem dX2_isCrossed_22 : decode cX2_isCrossed 22 = .ok (.goto 4, 3) := by decide +kernel
theorem dX2_isCrossed_25 : decode cX2_isCrossed 25 = .ok (.iconst 0, 1) := by decide +kernel
theorem dX2_isCrossed_26 : decode cX2_isCrossed 26 = .ok (.ireturn, 1) := by decide +kernel
theorem dX2_isHigh_0 : decode cX2_isHigh 0 = .ok (.iload_n 3, 1) := by decide +kernel
theorem dX2_isHigh_1 : decode cX2_isHigh 1 = .ok (.ifCond .lt 19, 3) := by decide +kernel
theorem dX2_isHigh_4 : decode cX2_isHigh 4 = .ok (.iload_n 3, 1) := by decide +kernel
theorem dX2_isHigh_5 : decode cX2_isHigh 5 = .ok (.getstatic 78, 3) := by decide +kernel
theorem dX2_isHigh_8 : decode cX2_isHigh 8 = .ok (.arraylength, 1) := by decide +kernel
theorem dX2_isHigh_9 : decode cX2_isHigh 9 = .ok (.if_icmp .ge 11, 3) := by decide +kernel
theorem dX2_isHigh_12 : decode cX2_isHigh 12 = .ok (.iload_n 3, 1) := by decide +kernel
theorem dX2_isHigh_13 : decode cX2_isHigh 13 = .ok (.getstatic 81, 3) := by decide +kernel
theorem dX2_isHigh_16 : decode cX2_isHigh 16 = .ok (.arraylength, 1) := by decide +kernel
theorem dX2_isHigh_17 : decode cX2_isHigh 17 = .ok (.if_icmp .lt 5, 3) := by decide +kernel
theorem dX2_isHigh_20 : decode cX2_isHigh 20 = .ok (.iconst 0, 1) := by decide +kernel
theorem dX2_isHigh_21 : decode cX2_isHigh 21 = .ok (.ireturn, 1) := by decide +kernel
theorem dX2_isHigh_22 : decode cX2_isHigh 22 = .ok (.iload_n 1, 1) := by decide +kernel
theorem dX2_isHigh_23 : decode cX2_isHigh 23 = .ok (.getstatic 78, 3) := by decide +kernel
theorem dX2_isHigh_26 : decode cX2_isHigh 26 = .ok (.iload_n 3, 1) := by decide +kernel
theorem dX2_isHigh_27 : decode cX2_isHigh 27 = .ok (.iaload, 1) := by decide +kernel
theorem dX2_isHigh_28 : decode cX2_isHigh 28 = .ok (.iadd, 1) := by decide +kernel
theorem dX2_isHigh_29 : decode cX2_isHigh 29 = .ok (.iload_n 2, 1) := by decide +kernel
theorem dX2_isHigh_30 : decode cX2_isHigh 30 = .ok (.getstatic 81, 3) := by decide +kernel
theorem dX2_isHigh_33 : decode cX2_isHigh 33 = .ok (.iload_n 3, 1) := by decide +kernel
theorem dX2_isHigh_34 : decode cX2_isHigh 34 = .ok (.iaload, 1) := by decide +kernel
theorem dX2_isHigh_35 : decode cX2_isHigh 35 = .ok (.iadd, 1) := by decide +kernel
theorem dX2_isHigh_36 : decode cX2_isHigh 36 = .ok (.invokestatic 84, 3) := by decide +kernel
theorem dX2_isHigh_39 : decode cX2_isHigh 39 = .ok (.istore 4, 2) := by decide +kernel
theorem dX2_isHigh_41 : decode cX2_isHigh 41 = .ok (.iload 4, 2) := by decide +kernel
theorem dX2_isHigh_43 : decode cX2_isHigh 43 = .ok (.invokestatic 87, 3) := by decide +kernel
theorem dX2_isHigh_46 : decode cX2_isHigh 46 = .ok (.ifCond .eq 17, 3) := by decide +kernel
theorem dX2_isHigh_49 : decode cX2_isHigh 49 = .ok (.aload_n 0, 1) := by decide +kernel
theorem dX2_isHigh_50 : decode cX2_isHigh 50 = .ok (.getfield 9, 3) := by decide +kernel
theorem dX2_isHigh_53 : decode cX2_isHigh 53 = .ok (.iload 4, 2) := by decide +kernel
theorem dX2_isHigh_55 : decode cX2_isHigh 55 = .ok (.baload, 1) := by decide +kernel
theorem dX2_isHigh_56 : decode cX2_isHigh 56 = .ok (.ifCond .eq 7, 3) := by decide +kernel
theorem dX2_isHigh_59 : decode cX2_isHigh 59 = .ok (.iconst 1, 1) := by decide +kernel
theorem dX2_isHigh_60 : decode cX2_isHigh 60 = .ok (.goto 4, 3) := by decide +kernel
theorem dX2_isHigh_63 : decode cX2_isHigh 63 = .ok (.iconst 0, 1) := by decide +kernel
theorem dX2_isHigh_64 : decode cX2_isHigh 64 = .ok (.ireturn, 1) := by decide +kernel
theorem dX2_edgeOf_0 : decode cX2_edgeOf 0 = .ok (.iload_n 2, 1) := by decide +kernel
theorem dX2_edgeOf_1 : decode cX2_edgeOf 1 = .ok (.tableswitch 55 0 2 #[27, 34, 46], 27) := by decide +kernel
theorem dX2_edgeOf_28 : decode cX2_edgeOf 28 = .ok (.iload_n 0, 1) := by decide +kernel
theorem dX2_edgeOf_29 : decode cX2_edgeOf 29 = .ok (.bipush 6, 2) := by decide +kernel
theorem dX2_edgeOf_31 : decode cX2_edgeOf 31 = .ok (.imul, 1) := by decide +kernel
theorem dX2_edgeOf_32 : decode cX2_edgeOf 32 = .ok (.iload_n 1, 1) := by decide +kernel
theorem dX2_edgeOf_33 : decode cX2_edgeOf 33 = .ok (.iadd, 1) := by decide +kernel
theorem dX2_edgeOf_34 : decode cX2_edgeOf 34 = .ok (.ireturn, 1) := by decide +kernel
theorem dX2_edgeOf_35 : decode cX2_edgeOf 35 = .ok (.bipush 42, 2) := by decide +kernel
theorem dX2_edgeOf_37 : decode cX2_edgeOf 37 = .ok (.iload_n 0, 1) := by decide +kernel
theorem dX2_edgeOf_38 : decode cX2_edgeOf 38 = .ok (.bipush 7, 2) := by decide +kernel
theorem dX2_edgeOf_40 : decode cX2_edgeOf 40 = .ok (.imul, 1) := by decide +kernel
theorem dX2_edgeOf_41 : decode cX2_edgeOf 41 = .ok (.iadd, 1) := by decide +kernel
theorem dX2_edgeOf_42 : decode cX2_edgeOf 42 = .ok (.iload_n 1, 1) := by decide +kernel
theorem dX2_edgeOf_43 : decode cX2_edgeOf 43 = .ok (.iadd, 1) := by decide +kernel
theorem dX2_edgeOf_44 : decode cX2_edgeOf 44 = .ok (.iconst 1, 1) := by decide +kernel
theorem dX2_edgeOf_45 : decode cX2_edgeOf 45 = .ok (.iadd, 1) := by decide +kernel
theorem dX2_edgeOf_46 : decode cX2_edgeOf 46 = .ok (.ireturn, 1) := by decide +kernel
theorem dX2_edgeOf_47 : decode cX2_edgeOf 47 = .ok (.iload_n 0, 1) := by decide +kernel
theorem dX2_edgeOf_48 : decode cX2_edgeOf 48 = .ok (.iconst 1, 1) := by decide +kernel
theorem dX2_edgeOf_49 : decode cX2_edgeOf 49 = .ok (.iadd, 1) := by decide +kernel
theorem dX2_edgeOf_50 : decode cX2_edgeOf 50 = .ok (.bipush 6, 2) := by decide +kernel
theorem dX2_edgeOf_52 : decode cX2_edgeOf 52 = .ok (.imul, 1) := by decide +kernel
theorem dX2_edgeOf_53 : decode cX2_edgeOf 53 = .ok (.iload_n 1, 1) := by decide +kernel
theorem dX2_edgeOf_54 : decode cX2_edgeOf 54 = .ok (.iadd, 1) := by decide +kernel
theorem dX2_edgeOf_55 : decode cX2_edgeOf 55 = .ok (.ireturn, 1) := by decide +kernel
theorem dX2_edgeOf_56 : decode cX2_edgeOf 56 = .ok (.bipush 42, 2) := by decide +kernel
theorem dX2_edgeOf_58 : decode cX2_edgeOf 58 = .ok (.iload_n 0, 1) := by decide +kernel
theorem dX2_edgeOf_59 : decode cX2_edgeOf 59 = .ok (.bipush 7, 2) := by decide +kernel
theorem dX2_edgeOf_61 : decode cX2_edgeOf 61 = .ok (.imul, 1) := by decide +kernel
theorem dX2_edgeOf_62 : decode cX2_edgeOf 62 = .ok (.iadd, 1) := by decide +kernel
theorem dX2_edgeOf_63 : decode cX2_edgeOf 63 = .ok (.iload_n 1, 1) := by decide +kernel
theorem dX2_edgeOf_64 : decode cX2_edgeOf 64 = .ok (.iadd, 1) := by decide +kernel
theorem dX2_edgeOf_65 : decode cX2_edgeOf 65 = .ok (.ireturn, 1) := by decide +kernel
theorem dX2_addPiece_0 : decode cX2_addPiece 0 = .ok (.aload_n 0, 1) := by decide +kernel
theorem dX2_addPiece_1 : decode cX2_addPiece 1 = .ok (.getfield 31, 3) := by decide +kernel
theorem dX2_addPiece_4 : decode cX2_addPiece 4 = .ok (.ifCond .lt 60, 3) := by decide +kernel
theorem dX2_addPiece_7 : decode cX2_addPiece 7 = .ok (.aload_n 0, 1) := by decide +kernel
theorem dX2_addPiece_8 : decode cX2_addPiece 8 = .ok (.getfield 31, 3) := by decide +kernel
theorem dX2_addPiece_11 : decode cX2_addPiece 11 = .ok (.bipush 72, 2) := by decide +kernel
theorem dX2_addPiece_13 : decode cX2_addPiece 13 = .ok (.if_icmp .ge 51, 3) := by decide +kernel
theorem dX2_addPiece_16 : decode cX2_addPiece 16 = .ok (.aload_n 0, 1) := by decide +kernel
theorem dX2_addPiece_17 : decode cX2_addPiece 17 = .ok (.getfield 15, 3) := by decide +kernel
theorem dX2_addPiece_20 : decode cX2_addPiece 20 = .ok (.aload_n 0, 1) := by decide +kernel
theorem dX2_addPiece_21 : decode cX2_addPiece 21 = .ok (.getfield 31, 3) := by decide +kernel
theorem dX2_addPiece_24 : decode cX2_addPiece 24 = .ok (.iload_n 1, 1) := by decide +kernel
theorem dX2_addPiece_25 : decode cX2_addPiece 25 = .ok (.iastore, 1) := by decide +kernel
theorem dX2_addPiece_26 : decode cX2_addPiece 26 = .ok (.aload_n 0, 1) := by decide +kernel
theorem dX2_addPiece_27 : decode cX2_addPiece 27 = .ok (.getfield 19, 3) := by decide +kernel
theorem dX2_addPiece_30 : decode cX2_addPiece 30 = .ok (.aload_n 0, 1) := by decide +kernel
theorem dX2_addPiece_31 : decode cX2_addPiece 31 = .ok (.getfield 31, 3) := by decide +kernel
theorem dX2_addPiece_34 : decode cX2_addPiece 34 = .ok (.iload_n 2, 1) := by decide +kernel
theorem dX2_addPiece_35 : decode cX2_addPiece 35 = .ok (.iastore, 1) := by decide +kernel
theorem dX2_addPiece_36 : decode cX2_addPiece 36 = .ok (.aload_n 0, 1) := by decide +kernel
theorem dX2_addPiece_37 : decode cX2_addPiece 37 = .ok (.iload_n 1, 1) := by decide +kernel
theorem dX2_addPiece_38 : decode cX2_addPiece 38 = .ok (.aload_n 0, 1) := by decide +kernel
theorem dX2_addPiece_39 : decode cX2_addPiece 39 = .ok (.getfield 31, 3) := by decide +kernel
theorem dX2_addPiece_42 : decode cX2_addPiece 42 = .ok (.invokevirtual 91, 3) := by decide +kernel
theorem dX2_addPiece_45 : decode cX2_addPiece 45 = .ok (.aload_n 0, 1) := by decide +kernel
theorem dX2_addPiece_46 : decode cX2_addPiece 46 = .ok (.iload_n 2, 1) := by decide +kernel
theorem dX2_addPiece_47 : decode cX2_addPiece 47 = .ok (.aload_n 0, 1) := by decide +kernel
theorem dX2_addPiece_48 : decode cX2_addPiece 48 = .ok (.getfield 31, 3) := by decide +kernel
theorem dX2_addPiece_51 : decode cX2_addPiece 51 = .ok (.invokevirtual 91, 3) := by decide +kernel
theorem dX2_addPiece_54 : decode cX2_addPiece 54 = .ok (.aload_n 0, 1) := by decide +kernel
theorem dX2_addPiece_55 : decode cX2_addPiece 55 = .ok (.dup, 1) := by decide +kernel
theorem dX2_addPiece_56 : decode cX2_addPiece 56 = .ok (.getfield 31, 3) := by decide +kernel
theorem dX2_addPiece_59 : decode cX2_addPiece 59 = .ok (.iconst 1, 1) := by decide +kernel
theorem dX2_addPiece_60 : decode cX2_addPiece 60 = .ok (.iadd, 1) := by decide +kernel
theorem dX2_addPiece_61 : decode cX2_addPiece 61 = .ok (.putfield 31, 3) := by decide +kernel
theorem dX2_addPiece_64 : decode cX2_addPiece 64 = .ok (.return_, 1) := by decide +kernel
theorem dX2_endPiece_0 : decode cX2_endPiece 0 = .ok (.iload_n 1, 1) := by decide +kernel
theorem dX2_endPiece_1 : decode cX2_endPiece 1 = .ok (.ifCond .lt 9, 3) := by decide +kernel
theorem dX2_endPiece_4 : decode cX2_endPiece 4 = .ok (.iload_n 1, 1) := by decide +kernel
theorem dX2_endPiece_5 : decode cX2_endPiece 5 = .ok (.bipush 84, 2) := by decide +kernel
theorem dX2_endPiece_7 : decode cX2_endPiece 7 = .ok (.if_icmp .lt 4, 3) := by decide +kernel
theorem dX2_endPiece_10 : decode cX2_endPiece 10 = .ok (.return_, 1) := by decide +kernel
theorem dX2_endPiece_11 : decode cX2_endPiece 11 = .ok (.aload_n 0, 1) := by decide +kernel
theorem dX2_endPiece_12 : decode cX2_endPiece 12 = .ok (.getfield 25, 3) := by decide +kernel
theorem dX2_endPiece_15 : decode cX2_endPiece 15 = .ok (.iload_n 1, 1) := by decide +kernel
theorem dX2_endPiece_16 : decode cX2_endPiece 16 = .ok (.iaload, 1) := by decide +kernel
theorem dX2_endPiece_17 : decode cX2_endPiece 17 = .ok (.iconst (-1), 1) := by decide +kernel
theorem dX2_endPiece_18 : decode cX2_endPiece 18 = .ok (.if_icmp .ne 13, 3) := by decide +kernel
theorem dX2_endPiece_21 : decode cX2_endPiece 21 = .ok (.aload_n 0, 1) := by decide +kernel
theorem dX2_endPiece_22 : decode cX2_endPiece 22 = .ok (.getfield 25, 3) := by decide +kernel
theorem dX2_endPiece_25 : decode cX2_endPiece 25 = .ok (.iload_n 1, 1) := by decide +kernel
theorem dX2_endPiece_26 : decode cX2_endPiece 26 = .ok (.iload_n 2, 1) := by decide +kernel
theorem dX2_endPiece_27 : decode cX2_endPiece 27 = .ok (.iastore, 1) := by decide +kernel
theorem dX2_endPiece_28 : decode cX2_endPiece 28 = .ok (.goto 10, 3) := by decide +kernel
theorem dX2_endPiece_31 : decode cX2_endPiece 31 = .ok (.aload_n 0, 1) := by decide +kernel
theorem dX2_endPiece_32 : decode cX2_endPiece 32 = .ok (.getfield 28, 3) := by decide +kernel
theorem dX2_endPiece_35 : decode cX2_endPiece 35 = .ok (.iload_n 1, 1) := by decide +kernel
theorem dX2_endPiece_36 : decode cX2_endPiece 36 = .ok (.iload_n 2, 1) := by decide +kernel
theorem dX2_endPiece_37 : decode cX2_endPiece 37 = .ok (.iastore, 1) := by decide +kernel
theorem dX2_endPiece_38 : decode cX2_endPiece 38 = .ok (.return_, 1) := by decide +kernel
theorem dX2_isAtBorder_0 : decode cX2_isAtBorder 0 = .ok (.iload_n 1, 1) := by decide +kernel
theorem dX2_isAtBorder_1 : decode cX2_isAtBorder 1 = .ok (.ifCond .lt 33, 3) := by decide +kernel
theorem dX2_isAtBorder_4 : decode cX2_isAtBorder 4 = .ok (.iload_n 1, 1) := by decide +kernel
theorem dX2_isAtBorder_5 : decode cX2_isAtBorder 5 = .ok (.bipush 84, 2) := by decide +kernel
theorem dX2_isAtBorder_7 : decode cX2_isAtBorder 7 = .ok (.if_icmp .ge 27, 3) := by decide +kernel
theorem dX2_isAtBorder_10 : decode cX2_isAtBorder 10 = .ok (.aload_n 0, 1) := by decide +kernel
theorem dX2_isAtBorder_11 : decode cX2_isAtBorder 11 = .ok (.getfield 25, 3) := by decide +kernel
theorem dX2_isAtBorder_14 : decode cX2_isAtBorder 14 = .ok (.iload_n 1, 1) := by decide +kernel
theorem dX2_isAtBorder_15 : decode cX2_isAtBorder 15 = .ok (.iaload, 1) := by decide +kernel
theorem dX2_isAtBorder_16 : decode cX2_isAtBorder 16 = .ok (.iconst (-1), 1) := by decide +kernel
theorem dX2_isAtBorder_17 : decode cX2_isAtBorder 17 = .ok (.if_icmp .eq 17, 3) := by decide +kernel
theorem dX2_isAtBorder_20 : decode cX2_isAtBorder 20 = .ok (.aload_n 0, 1) := by decide +kernel
theorem dX2_isAtBorder_21 : decode cX2_isAtBorder 21 = .ok (.getfield 28, 3) := by decide +kernel
theorem dX2_isAtBorder_24 : decode cX2_isAtBorder 24 = .ok (.iload_n 1, 1) := by decide +kernel
theorem dX2_isAtBorder_25 : decode cX2_isAtBorder 25 = .ok (.iaload, 1) := by decide +kernel
theorem dX2_isAtBorder_26 : decode cX2_isAtBorder 26 = .ok (.iconst (-1), 1) := by decide +kernel
theorem dX2_isAtBorder_27 : decode cX2_isAtBorder 27 = .ok (.if_icmp .ne 7, 3) := by decide +kernel
theorem dX2_isAtBorder_30 : decode cX2_isAtBorder 30 = .ok (.iconst 1, 1) := by decide +kernel
theorem dX2_isAtBorder_31 : decode cX2_isAtBorder 31 = .ok (.goto 4, 3) := by decide +kernel
theorem dX2_isAtBorder_34 : decode cX2_isAtBorder 34 = .ok (.iconst 0, 1) := by decide +kernel
theorem dX2_isAtBorder_35 : decode cX2_isAtBorder 35 = .ok (.ireturn, 1) := by decide +kernel
theorem dX2_crossedEdges_0 : decode cX2_crossedEdges 0 = .ok (.iconst 2, 1) := by decide +kernel
theorem dX2_crossedEdges_1 : decode cX2_crossedEdges 1 = .ok (.aload_n 0, 1) := by decide +kernel
theorem dX2_crossedEdges_2 : decode cX2_crossedEdges 2 = .ok (.getfield 31, 3) := by decide +kernel
theorem dX2_crossedEdges_5 : decode cX2_crossedEdges 5 = .ok (.imul, 1) := by decide +kernel
theorem dX2_crossedEdges_6 : decode cX2_crossedEdges 6 = .ok (.istore_n 1, 1) := by decide +kernel
theorem dX2_crossedEdges_7 : decode cX2_crossedEdges 7 = .ok (.iconst 0, 1) := by decide +kernel
theorem dX2_crossedEdges_8 : decode cX2_crossedEdges 8 = .ok (.istore_n 2, 1) := by decide +kernel
theorem dX2_crossedEdges_9 : decode cX2_crossedEdges 9 = .ok (.iload_n 2, 1) := by decide +kernel
theorem dX2_crossedEdges_10 : decode cX2_crossedEdges 10 = .ok (.bipush 84, 2) := by decide +kernel
theorem dX2_crossedEdges_12 : decode cX2_crossedEdges 12 = .ok (.if_icmp .ge 20, 3) := by decide +kernel
theorem dX2_crossedEdges_15 : decode cX2_crossedEdges 15 = .ok (.aload_n 0, 1) := by decide +kernel
theorem dX2_crossedEdges_16 : decode cX2_crossedEdges 16 = .ok (.iload_n 2, 1) := by decide +kernel
theorem dX2_crossedEdges_17 : decode cX2_crossedEdges 17 = .ok (.invokevirtual 94, 3) := by decide +kernel
theorem dX2_crossedEdges_20 : decode cX2_crossedEdges 20 = .ok (.ifCond .eq 6, 3) := by decide +kernel
theorem dX2_crossedEdges_23 : decode cX2_crossedEdges 23 = .ok (.iinc 1 1, 3) := by decide +kernel
theorem dX2_crossedEdges_26 : decode cX2_crossedEdges 26 = .ok (.iinc 2 1, 3) := by decide +kernel
theorem dX2_crossedEdges_29 : decode cX2_crossedEdges 29 = .ok (.goto (-20), 3) := by decide +kernel
theorem dX2_crossedEdges_32 : decode cX2_crossedEdges 32 = .ok (.iload_n 1, 1) := by decide +kernel
theorem dX2_crossedEdges_33 : decode cX2_crossedEdges 33 = .ok (.iconst 2, 1) := by decide +kernel
theorem dX2_crossedEdges_34 : decode cX2_crossedEdges 34 = .ok (.idiv, 1) := by decide +kernel
theorem dX2_crossedEdges_35 : decode cX2_crossedEdges 35 = .ok (.ireturn, 1) := by decide +kernel
theorem dX2_trace_0 : decode cX2_trace 0 = .ok (.aload_n 0, 1) := by decide +kernel
theorem dX2_trace_1 : decode cX2_trace 1 = .ok (.iconst 0, 1) := by decide +kernel
theorem dX2_trace_2 : decode cX2_trace 2 = .ok (.putfield 35, 3) := by decide +kernel
theorem dX2_trace_5 : decode cX2_trace 5 = .ok (.aload_n 0, 1) := by decide +kernel
theorem dX2_trace_6 : decode cX2_trace 6 = .ok (.iconst 0, 1) := by decide +kernel
theorem dX2_trace_7 : decode cX2_trace 7 = .ok (.putfield 38, 3) := by decide +kernel
theorem dX2_trace_10 : decode cX2_trace 10 = .ok (.aload_n 0, 1) := by decide +kernel
theorem dX2_trace_11 : decode cX2_trace 11 = .ok (.iconst 0, 1) := by decide +kernel
theorem dX2_trace_12 : decode cX2_trace 12 = .ok (.putfield 41, 3) := by decide +kernel
theorem dX2_trace_15 : decode cX2_trace 15 = .ok (.iconst 0, 1) := by decide +kernel
theorem dX2_trace_16 : decode cX2_trace 16 = .ok (.istore_n 1, 1) := by decide +kernel
theorem dX2_trace_17 : decode cX2_trace 17 = .ok (.iload_n 1, 1) := by decide +kernel
theorem dX2_trace_18 : decode cX2_trace 18 = .ok (.bipush 72, 2) := by decide +kernel
theorem dX2_trace_20 : decode cX2_trace 20 = .ok (.if_icmp .ge 16, 3) := by decide +kernel
theorem dX2_trace_23 : decode cX2_trace 23 = .ok (.aload_n 0, 1) := by decide +kernel
theorem dX2_trace_24 : decode cX2_trace 24 = .ok (.getfield 22, 3) := by decide +kernel
theorem dX2_trace_27 : decode cX2_trace 27 = .ok (.iload_n 1, 1) := by decide +kernel
theorem dX2_trace_28 : decode cX2_trace 28 = .ok (.iconst 0, 1) := by decide +kernel
theorem dX2_trace_29 : decode cX2_trace 29 = .ok (.bastore, 1) := by decide +kernel
theorem dX2_trace_30 : decode cX2_trace 30 = .ok (.iinc 1 1, 3) := by decide +kernel
theorem dX2_trace_33 : decode cX2_trace 33 = .ok (.goto (-16), 3) := by decide +kernel
theorem dX2_trace_36 : decode cX2_trace 36 = .ok (.iconst 0, 1) := by decide +kernel
theorem dX2_trace_37 : decode cX2_trace 37 = .ok (.istore_n 1, 1) := by decide +kernel
theorem dX2_trace_38 : decode cX2_trace 38 = .ok (.iload_n 1, 1) := by decide +kernel
theorem dX2_trace_39 : decode cX2_trace 39 = .ok (.bipush 84, 2) := by decide +kernel
theorem dX2_trace_41 : decode cX2_trace 41 = .ok (.if_icmp .ge 41, 3) := by decide +kernel
theorem dX2_trace_44 : decode cX2_trace 44 = .ok (.aload_n 0, 1) := by decide +kernel
theorem dX2_trace_45 : decode cX2_trace 45 = .ok (.iload_n 1, 1) := by decide +kernel
theorem dX2_trace_46 : decode cX2_trace 46 = .ok (.invokevirtual 94, 3) := by decide +kernel
theorem dX2_trace_49 : decode cX2_trace 49 = .ok (.ifCond .eq 27, 3) := by decide +kernel
theorem dX2_trace_52 : decode cX2_trace 52 = .ok (.aload_n 0, 1) := by decide +kernel
theorem dX2_trace_53 : decode cX2_trace 53 = .ok (.aload_n 0, 1) := by decide +kernel
theorem dX2_trace_54 : decode cX2_trace 54 = .ok (.getfield 25, 3) := by decide +kernel
theorem dX2_trace_57 : decode cX2_trace 57 = .ok (.iload_n 1, 1) := by decide +kernel
theorem dX2_trace_58 : decode cX2_trace 58 = .ok (.iaload, 1) := by decide +kernel
theorem dX2_trace_59 : decode cX2_trace 59 = .ok (.invokevirtual 97, 3) := by decide +kernel
theorem dX2_trace_62 : decode cX2_trace 62 = .ok (.ifCond .eq 14, 3) := by decide +kernel
theorem dX2_trace_65 : decode cX2_trace 65 = .ok (.aload_n 0, 1) := by decide +kernel
theorem dX2_trace_66 : decode cX2_trace 66 = .ok (.aload_n 0, 1) := by decide +kernel
theorem dX2_trace_67 : decode cX2_trace 67 = .ok (.getfield 25, 3) := by decide +kernel
theorem dX2_trace_70 : decode cX2_trace 70 = .ok (.iload_n 1, 1) := by decide +kernel
theorem dX2_trace_71 : decode cX2_trace 71 = .ok (.iaload, 1) := by decide +kernel
theorem dX2_trace_72 : decode cX2_trace 72 = .ok (.iload_n 1, 1) := by decide +kernel
theorem dX2_trace_73 : decode cX2_trace 73 = .ok (.invokevirtual 100, 3) := by decide +kernel
theorem dX2_trace_76 : decode cX2_trace 76 = .ok (.iinc 1 1, 3) := by decide +kernel
theorem dX2_trace_79 : decode cX2_trace 79 = .ok (.goto (-41), 3) := by decide +kernel
theorem dX2_trace_82 : decode cX2_trace 82 = .ok (.aload_n 0, 1) := by decide +kernel
theorem dX2_trace_83 : decode cX2_trace 83 = .ok (.getfield 35, 3) := by decide +kernel
theorem dX2_trace_86 : decode cX2_trace 86 = .ok (.istore_n 1, 1) := by decide +kernel
theorem dX2_trace_87 : decode cX2_trace 87 = .ok (.iconst 0, 1) := by decide +kernel
theorem dX2_trace_88 : decode cX2_trace 88 = .ok (.istore_n 2, 1) := by decide +kernel
theorem dX2_trace_89 : decode cX2_trace 89 = .ok (.iload_n 2, 1) := by decide +kernel
theorem dX2_trace_90 : decode cX2_trace 90 = .ok (.aload_n 0, 1) := by decide +kernel
theorem dX2_trace_91 : decode cX2_trace 91 = .ok (.getfield 31, 3) := by decide +kernel
theorem dX2_trace_94 : decode cX2_trace 94 = .ok (.if_icmp .ge 34, 3) := by decide +kernel
theorem dX2_trace_97 : decode cX2_trace 97 = .ok (.iload_n 2, 1) := by decide +kernel
theorem dX2_trace_98 : decode cX2_trace 98 = .ok (.bipush 72, 2) := by decide +kernel
theorem dX2_trace_100 : decode cX2_trace 100 = .ok (.if_icmp .ge 28, 3) := by decide +kernel
theorem dX2_trace_103 : decode cX2_trace 103 = .ok (.aload_n 0, 1) := by decide +kernel
theorem dX2_trace_104 : decode cX2_trace 104 = .ok (.iload_n 2, 1) := by decide +kernel
theorem dX2_trace_105 : decode cX2_trace 105 = .ok (.invokevirtual 97, 3) := by decide +kernel
theorem dX2_trace_108 : decode cX2_trace 108 = .ok (.ifCond .eq 14, 3) := by decide +kernel
theorem dX2_trace_111 : decode cX2_trace 111 = .ok (.aload_n 0, 1) := by decide +kernel
theorem dX2_trace_112 : decode cX2_trace 112 = .ok (.iload_n 2, 1) := by decide +kernel
theorem dX2_trace_113 : decode cX2_trace 113 = .ok (.aload_n 0, 1) := by decide +kernel
theorem dX2_trace_114 : decode cX2_trace 114 = .ok (.getfield 15, 3) := by decide +kernel
theorem dX2_trace_117 : decode cX2_trace 117 = .ok (.iload_n 2, 1) := by decide +kernel
theorem dX2_trace_118 : decode cX2_trace 118 = .ok (.iaload, 1) := by decide +kernel
theorem dX2_trace_119 : decode cX2_trace 119 = .ok (.invokevirtual 100, 3) := by decide +kernel
theorem dX2_trace_122 : decode cX2_trace 122 = .ok (.iinc 2 1, 3) := by decide +kernel
theorem dX2_trace_125 : decode cX2_trace 125 = .ok (.goto (-36), 3) := by decide +kernel
theorem dX2_trace_128 : decode cX2_trace 128 = .ok (.aload_n 0, 1) := by decide +kernel
theorem dX2_trace_129 : decode cX2_trace 129 = .ok (.aload_n 0, 1) := by decide +kernel
theorem dX2_trace_130 : decode cX2_trace 130 = .ok (.getfield 35, 3) := by decide +kernel
theorem dX2_trace_133 : decode cX2_trace 133 = .ok (.iload_n 1, 1) := by decide +kernel
theorem dX2_trace_134 : decode cX2_trace 134 = .ok (.isub, 1) := by decide +kernel
theorem dX2_trace_135 : decode cX2_trace 135 = .ok (.putfield 38, 3) := by decide +kernel
theorem dX2_trace_138 : decode cX2_trace 138 = .ok (.return_, 1) := by decide +kernel
theorem dX2_goAlong_0 : decode cX2_goAlong 0 = .ok (.iload_n 1, 1) := by decide +kernel
theorem dX2_goAlong_1 : decode cX2_goAlong 1 = .ok (.istore_n 3, 1) := by decide +kernel
theorem dX2_goAlong_2 : decode cX2_goAlong 2 = .ok (.iload_n 2, 1) := by decide +kernel
theorem dX2_goAlong_3 : decode cX2_goAlong 3 = .ok (.istore 4, 2) := by decide +kernel
theorem dX2_goAlong_5 : decode cX2_goAlong 5 = .ok (.iconst 0, 1) := by decide +kernel
theorem dX2_goAlong_6 : decode cX2_goAlong 6 = .ok (.istore 5, 2) := by decide +kernel
theorem dX2_goAlong_8 : decode cX2_goAlong 8 = .ok (.iconst 0, 1) := by decide +kernel
theorem dX2_goAlong_9 : decode cX2_goAlong 9 = .ok (.istore 6, 2) := by decide +kernel
theorem dX2_goAlong_11 : decode cX2_goAlong 11 = .ok (.iload 6, 2) := by decide +kernel
theorem dX2_goAlong_13 : decode cX2_goAlong 13 = .ok (.bipush 72, 2) := by decide +kernel
theorem dX2_goAlong_15 : decode cX2_goAlong 15 = .ok (.if_icmp .ge 63, 3) := by decide +kernel
theorem dX2_goAlong_18 : decode cX2_goAlong 18 = .ok (.aload_n 0, 1) := by decide +kernel
theorem dX2_goAlong_19 : decode cX2_goAlong 19 = .ok (.iload_n 3, 1) := by decide +kernel
theorem dX2_goAlong_20 : decode cX2_goAlong 20 = .ok (.invokevirtual 97, 3) := by decide +kernel
theorem dX2_goAlong_23 : decode cX2_goAlong 23 = .ok (.ifCond .eq 55, 3) := by decide +kernel
theorem dX2_goAlong_26 : decode cX2_goAlong 26 = .ok (.aload_n 0, 1) := by decide +kernel
theorem dX2_goAlong_27 : decode cX2_goAlong 27 = .ok (.getfield 22, 3) := by decide +kernel
theorem dX2_goAlong_30 : decode cX2_goAlong 30 = .ok (.iload_n 3, 1) := by decide +kernel
theorem dX2_goAlong_31 : decode cX2_goAlong 31 = .ok (.iconst 1, 1) := by decide +kernel
theorem dX2_goAlong_32 : decode cX2_goAlong 32 = .ok (.bastore, 1) := by decide +kernel
theorem dX2_goAlong_33 : decode cX2_goAlong 33 = .ok (.iinc 5 1, 3) := by decide +kernel
theorem dX2_goAlong_36 : decode cX2_goAlong 36 = .ok (.aload_n 0, 1) := by decide +kernel
theorem dX2_goAlong_37 : decode cX2_goAlong 37 = .ok (.getfield 15, 3) := by decide +kernel
theorem dX2_goAlong_40 : decode cX2_goAlong 40 = .ok (.iload_n 3, 1) := by decide +kernel
theorem dX2_goAlong_41 : decode cX2_goAlong 41 = .ok (.iaload, 1) := by decide +kernel
theorem dX2_goAlong_42 : decode cX2_goAlong 42 = .ok (.iload 4, 2) := by decide +kernel
theorem dX2_goAlong_44 : decode cX2_goAlong 44 = .ok (.if_icmp .ne 12, 3) := by decide +kernel
theorem dX2_goAlong_47 : decode cX2_goAlong 47 = .ok (.aload_n 0, 1) := by decide +kernel
theorem dX2_goAlong_48 : decode cX2_goAlong 48 = .ok (.getfield 19, 3) := by decide +kernel
theorem dX2_goAlong_51 : decode cX2_goAlong 51 = .ok (.iload_n 3, 1) := by decide +kernel
theorem dX2_goAlong_52 : decode cX2_goAlong 52 = .ok (.iaload, 1) := by decide +kernel
theorem dX2_goAlong_53 : decode cX2_goAlong 53 = .ok (.goto 9, 3) := by decide +kernel
theorem dX2_goAlong_56 : decode cX2_goAlong 56 = .ok (.aload_n 0, 1) := by decide +kernel
theorem dX2_goAlong_57 : decode cX2_goAlong 57 = .ok (.getfield 15, 3) := by decide +kernel
theorem dX2_goAlong_60 : decode cX2_goAlong 60 = .ok (.iload_n 3, 1) := by decide +kernel
theorem dX2_goAlong_61 : decode cX2_goAlong 61 = .ok (.iaload, 1) := by decide +kernel
theorem dX2_goAlong_62 : decode cX2_goAlong 62 = .ok (.istore 4, 2) := by decide +kernel
theorem dX2_goAlong_64 : decode cX2_goAlong 64 = .ok (.aload_n 0, 1) := by decide +kernel
theorem dX2_goAlong_65 : decode cX2_goAlong 65 = .ok (.iload 4, 2) := by decide +kernel
theorem dX2_goAlong_67 : decode cX2_goAlong 67 = .ok (.iload_n 3, 1) := by decide +kernel
theorem dX2_goAlong_68 : decode cX2_goAlong 68 = .ok (.invokevirtual 103, 3) := by decide +kernel
theorem dX2_goAlong_71 : decode cX2_goAlong 71 = .ok (.istore_n 3, 1) := by decide +kernel
theorem dX2_goAlong_72 : decode cX2_goAlong 72 = .ok (.iinc 6 1, 3) := by decide +kernel
theorem dX2_goAlong_75 : decode cX2_goAlong 75 = .ok (.goto (-64), 3) := by decide +kernel
theorem dX2_goAlong_78 : decode cX2_goAlong 78 = .ok (.aload_n 0, 1) := by decide +kernel
theorem dX2_goAlong_79 : decode cX2_goAlong 79 = .ok (.dup, 1) := by decide +kernel
theorem dX2_goAlong_80 : decode cX2_goAlong 80 = .ok (.getfield 35, 3) := by decide +kernel
theorem dX2_goAlong_83 : decode cX2_goAlong 83 = .ok (.iconst 1, 1) := by decide +kernel
theorem dX2_goAlong_84 : decode cX2_goAlong 84 = .ok (.iadd, 1) := by decide +kernel
theorem dX2_goAlong_85 : decode cX2_goAlong 85 = .ok (.putfield 35, 3) := by decide +kernel
theorem dX2_goAlong_88 : decode cX2_goAlong 88 = .ok (.aload_n 0, 1) := by decide +kernel
theorem dX2_goAlong_89 : decode cX2_goAlong 89 = .ok (.aload_n 0, 1) := by decide +kernel
theorem dX2_goAlong_90 : decode cX2_goAlong 90 = .ok (.getfield 41, 3) := by decide +kernel
theorem dX2_goAlong_93 : decode cX2_goAlong 93 = .ok (.iload 5, 2) := by decide +kernel
theorem dX2_goAlong_95 : decode cX2_goAlong 95 = .ok (.invokestatic 106, 3) := by decide +kernel
theorem dX2_goAlong_98 : decode cX2_goAlong 98 = .ok (.putfield 41, 3) := by decide +kernel
theorem dX2_goAlong_101 : decode cX2_goAlong 101 = .ok (.return_, 1) := by decide +kernel
theorem dX2_isAhead_0 : decode cX2_isAhead 0 = .ok (.iload_n 1, 1) := by decide +kernel
theorem dX2_isAhead_1 : decode cX2_isAhead 1 = .ok (.ifCond .lt 30, 3) := by decide +kernel
theorem dX2_isAhead_4 : decode cX2_isAhead 4 = .ok (.iload_n 1, 1) := by decide +kernel
theorem dX2_isAhead_5 : decode cX2_isAhead 5 = .ok (.aload_n 0, 1) := by decide +kernel
theorem dX2_isAhead_6 : decode cX2_isAhead 6 = .ok (.getfield 31, 3) := by decide +kernel
theorem dX2_isAhead_9 : decode cX2_isAhead 9 = .ok (.if_icmp .ge 22, 3) := by decide +kernel
theorem dX2_isAhead_12 : decode cX2_isAhead 12 = .ok (.iload_n 1, 1) := by decide +kernel
theorem dX2_isAhead_13 : decode cX2_isAhead 13 = .ok (.bipush 72, 2) := by decide +kernel
theorem dX2_isAhead_15 : decode cX2_isAhead 15 = .ok (.if_icmp .ge 16, 3) := by decide +kernel
theorem dX2_isAhead_18 : decode cX2_isAhead 18 = .ok (.aload_n 0, 1) := by decide +kernel
theorem dX2_isAhead_19 : decode cX2_isAhead 19 = .ok (.getfield 22, 3) := by decide +kernel
theorem dX2_isAhead_22 : decode cX2_isAhead 22 = .ok (.iload_n 1, 1) := by decide +kernel
theorem dX2_isAhead_23 : decode cX2_isAhead 23 = .ok (.baload, 1) := by decide +kernel
theorem dX2_isAhead_24 : decode cX2_isAhead 24 = .ok (.ifCond .ne 7, 3) := by decide +kernel
theorem dX2_isAhead_27 : decode cX2_isAhead 27 = .ok (.iconst 1, 1) := by decide +kernel
theorem dX2_isAhead_28 : decode cX2_isAhead 28 = .ok (.goto 4, 3) := by decide +kernel
theorem dX2_isAhead_31 : decode cX2_isAhead 31 = .ok (.iconst 0, 1) := by decide +kernel
theorem dX2_isAhead_32 : decode cX2_isAhead 32 = .ok (.ireturn, 1) := by decide +kernel
theorem dX2_pieceBehind_0 : decode cX2_pieceBehind 0 = .ok (.iload_n 1, 1) := by decide +kernel
theorem dX2_pieceBehind_1 : decode cX2_pieceBehind 1 = .ok (.ifCond .lt 9, 3) := by decide +kernel
theorem dX2_pieceBehind_4 : decode cX2_pieceBehind 4 = .ok (.iload_n 1, 1) := by decide +kernel
theorem dX2_pieceBehind_5 : decode cX2_pieceBehind 5 = .ok (.bipush 84, 2) := by decide +kernel
theorem dX2_pieceBehind_7 : decode cX2_pieceBehind 7 = .ok (.if_icmp .lt 5, 3) := by decide +kernel
theorem dX2_pieceBehind_10 : decode cX2_pieceBehind 10 = .ok (.iconst (-1), 1) := by decide +kernel
theorem dX2_pieceBehind_11 : decode cX2_pieceBehind 11 = .ok (.ireturn, 1) := by decide +kernel
theorem dX2_pieceBehind_12 : decode cX2_pieceBehind 12 = .ok (.aload_n 0, 1) := by decide +kernel
theorem dX2_pieceBehind_13 : decode cX2_pieceBehind 13 = .ok (.getfield 25, 3) := by decide +kernel
theorem dX2_pieceBehind_16 : decode cX2_pieceBehind 16 = .ok (.iload_n 1, 1) := by decide +kernel
theorem dX2_pieceBehind_17 : decode cX2_pieceBehind 17 = .ok (.iaload, 1) := by decide +kernel
theorem dX2_pieceBehind_18 : decode cX2_pieceBehind 18 = .ok (.iload_n 2, 1) := by decide +kernel
theorem dX2_pieceBehind_19 : decode cX2_pieceBehind 19 = .ok (.if_icmp .ne 12, 3) := by decide +kernel
theorem dX2_pieceBehind_22 : decode cX2_pieceBehind 22 = .ok (.aload_n 0, 1) := by decide +kernel
theorem dX2_pieceBehind_23 : decode cX2_pieceBehind 23 = .ok (.getfield 28, 3) := by decide +kernel
theorem dX2_pieceBehind_26 : decode cX2_pieceBehind 26 = .ok (.iload_n 1, 1) := by decide +kernel
theorem dX2_pieceBehind_27 : decode cX2_pieceBehind 27 = .ok (.iaload, 1) := by decide +kernel
theorem dX2_pieceBehind_28 : decode cX2_pieceBehind 28 = .ok (.goto 9, 3) := by decide +kernel
theorem dX2_pieceBehind_31 : decode cX2_pieceBehind 31 = .ok (.aload_n 0, 1) := by decide +kernel
theorem dX2_pieceBehind_32 : decode cX2_pieceBehind 32 = .ok (.getfield 25, 3) := by decide +kernel
theorem dX2_pieceBehind_35 : decode cX2_pieceBehind 35 = .ok (.iload_n 1, 1) := by decide +kernel
theorem dX2_pieceBehind_36 : decode cX2_pieceBehind 36 = .ok (.iaload, 1) := by decide +kernel
theorem dX2_pieceBehind_37 : decode cX2_pieceBehind 37 = .ok (.ireturn, 1) := by decide +kernel
theorem dX2_total_0 : decode cX2_total 0 = .ok (.aload_n 0, 1) := by decide +kernel
theorem dX2_total_1 : decode cX2_total 1 = .ok (.getfield 35, 3) := by decide +kernel
theorem dX2_total_4 : decode cX2_total 4 = .ok (.ireturn, 1) := by decide +kernel
theorem dX2_closed_0 : decode cX2_closed 0 = .ok (.aload_n 0, 1) := by decide +kernel
theorem dX2_closed_1 : decode cX2_closed 1 = .ok (.getfield 38, 3) := by decide +kernel
theorem dX2_closed_4 : decode cX2_closed 4 = .ok (.ireturn, 1) := by decide +kernel
theorem dX2_longest_0 : decode cX2_longest 0 = .ok (.aload_n 0, 1) := by decide +kernel
theorem dX2_longest_1 : decode cX2_longest 1 = .ok (.getfield 41, 3) := by decide +kernel
theorem dX2_longest_4 : decode cX2_longest 4 = .ok (.ireturn, 1) := by decide +kernel
theorem dX3_init_0 : decode cX3_init 0 = .ok (.aload_n 0, 1) := by decide +kernel
theorem dX3_init_1 : decode cX3_init 1 = .ok (.invokespecial 3, 3) := by decide +kernel
theorem dX3_init_4 : decode cX3_init 4 = .ok (.aload_n 0, 1) := by decide +kernel
theorem dX3_init_5 : decode cX3_init 5 = .ok (.bipush 60, 2) := by decide +kernel
theorem dX3_init_7 : decode cX3_init 7 = .ok (.newarray .int, 2) := by decide +kernel
theorem dX3_init_9 : decode cX3_init 9 = .ok (.putfield 9, 3) := by decide +kernel
theorem dX3_init_12 : decode cX3_init 12 = .ok (.aload_n 0, 1) := by decide +kernel
theorem dX3_init_13 : decode cX3_init 13 = .ok (.iconst 0, 1) := by decide +kernel
theorem dX3_init_14 : decode cX3_init 14 = .ok (.putfield 15, 3) := by decide +kernel
theorem dX3_init_17 : decode cX3_init 17 = .ok (.aload_n 0, 1) := by decide +kernel
theorem dX3_init_18 : decode cX3_init 18 = .ok (.iconst 0, 1) := by decide +kernel
theorem dX3_init_19 : decode cX3_init 19 = .ok (.putfield 19, 3) := by decide +kernel
theorem dX3_init_22 : decode cX3_init 22 = .ok (.aload_n 0, 1) := by decide +kernel
theorem dX3_init_23 : decode cX3_init 23 = .ok (.iconst 0, 1) := by decide +kernel
theorem dX3_init_24 : decode cX3_init 24 = .ok (.putfield 22, 3) := by decide +kernel
theorem dX3_init_27 : decode cX3_init 27 = .ok (.aload_n 0, 1) := by decide +kernel
theorem dX3_init_28 : decode cX3_init 28 = .ok (.iconst 0, 1) := by decide +kernel
theorem dX3_init_29 : decode cX3_init 29 = .ok (.putfield 25, 3) := by decide +kernel
theorem dX3_init_32 : decode cX3_init 32 = .ok (.aload_n 0, 1) := by decide +kernel
theorem dX3_init_33 : decode cX3_init 33 = .ok (.iconst 0, 1) := by decide +kernel
theorem dX3_init_34 : decode cX3_init 34 = .ok (.putfield 28, 3) := by decide +kernel
theorem dX3_init_37 : decode cX3_init 37 = .ok (.aload_n 0, 1) := by decide +kernel
theorem dX3_init_38 : decode cX3_init 38 = .ok (.iconst 0, 1) := by decide +kernel
theorem dX3_init_39 : decode cX3_init 39 = .ok (.putfield 31, 3) := by decide +kernel
theorem dX3_init_42 : decode cX3_init 42 = .ok (.return_, 1) := by decide +kernel
theorem dX4_init_0 : decode cX4_init 0 = .ok (.aload_n 0, 1) := by decide +kernel
theorem dX4_init_1 : decode cX4_init 1 = .ok (.invokespecial 3, 3) := by decide +kernel
theorem dX4_init_4 : decode cX4_init 4 = .ok (.aload_n 0, 1) := by decide +kernel
theorem dX4_init_5 : decode cX4_init 5 = .ok (.bipush 49, 2) := by decide +kernel
theorem dX4_init_7 : decode cX4_init 7 = .ok (.newarray .int, 2) := by decide +kernel
theorem dX4_init_9 : decode cX4_init 9 = .ok (.putfield 9, 3) := by decide +kernel
theorem dX4_init_12 : decode cX4_init 12 = .ok (.aload_n 0, 1) := by decide +kernel
theorem dX4_init_13 : decode cX4_init 13 = .ok (.bipush 49, 2) := by decide +kernel
theorem dX4_init_15 : decode cX4_init 15 = .ok (.newarray .int, 2) := by decide +kernel
theorem dX4_init_17 : decode cX4_init 17 = .ok (.putfield 15, 3) := by decide +kernel
theorem dX4_init_20 : decode cX4_init 20 = .ok (.return_, 1) := by decide +kernel
theorem dX4_readByWays_0 : decode cX4_readByWays 0 = .ok (.iconst 0, 1) := by decide +kernel
theorem dX4_readByWays_1 : decode cX4_readByWays 1 = .ok (.istore_n 2, 1) := by decide +kernel
theorem dX4_readByWays_2 : decode cX4_readByWays 2 = .ok (.iload_n 2, 1) := by decide +kernel
theorem dX4_readByWays_3 : decode cX4_readByWays 3 = .ok (.bipush 49, 2) := by decide +kernel
theorem dX4_readByWays_5 : decode cX4_readByWays 5 = .ok (.if_icmp .ge 32, 3) := by decide +kernel
theorem dX4_readByWays_8 : decode cX4_readByWays 8 = .ok (.aload_n 0, 1) := by decide +kernel
theorem dX4_readByWays_9 : decode cX4_readByWays 9 = .ok (.getfield 9, 3) := by decide +kernel
theorem dX4_readByWays_12 : decode cX4_readByWays 12 = .ok (.iload_n 2, 1) := by decide +kernel
theorem dX4_readByWays_13 : decode cX4_readByWays 13 = .ok (.iload_n 2, 1) := by decide +kernel
theorem dX4_readByWays_14 : decode cX4_readByWays 14 = .ok (.invokestatic 18, 3) := by decide +kernel
theorem dX4_readByWays_17 : decode cX4_readByWays 17 = .ok (.ifCond .eq 11, 3) := by decide +kernel
theorem dX4_readByWays_20 : decode cX4_readByWays 20 = .ok (.aload_n 1, 1) := by decide +kernel
theorem dX4_readByWays_21 : decode cX4_readByWays 21 = .ok (.iload_n 2, 1) := by decide +kernel
theorem dX4_readByWays_22 : decode cX4_readByWays 22 = .ok (.invokevirtual 22, 3) := by decide +kernel
theorem dX4_readByWays_25 : decode cX4_readByWays 25 = .ok (.goto 5, 3) := by decide +kernel
theorem dX4_readByWays_28 : decode cX4_readByWays 28 = .ok (.bipush 99, 2) := by decide +kernel
theorem dX4_readByWays_30 : decode cX4_readByWays 30 = .ok (.iastore, 1) := by decide +kernel
theorem dX4_readByWays_31 : decode cX4_readByWays 31 = .ok (.iinc 2 1, 3) := by decide +kernel
theorem dX4_readByWays_34 : decode cX4_readByWays 34 = .ok (.goto (-32), 3) := by decide +kernel
theorem dX4_readByWays_37 : decode cX4_readByWays 37 = .ok (.iconst 1, 1) := by decide +kernel
theorem dX4_readByWays_38 : decode cX4_readByWays 38 = .ok (.istore_n 2, 1) := by decide +kernel
theorem dX4_readByWays_39 : decode cX4_readByWays 39 = .ok (.iconst 0, 1) := by decide +kernel
theorem dX4_readByWays_40 : decode cX4_readByWays 40 = .ok (.istore_n 3, 1) := by decide +kernel
theorem dX4_readByWays_41 : decode cX4_readByWays 41 = .ok (.iload_n 3, 1) := by decide +kernel
theorem dX4_readByWays_42 : decode cX4_readByWays 42 = .ok (.bipush 49, 2) := by decide +kernel
theorem dX4_readByWays_44 : decode cX4_readByWays 44 = .ok (.if_icmp .ge 71, 3) := by decide +kernel
theorem dX4_readByWays_47 : decode cX4_readByWays 47 = .ok (.iload_n 2, 1) := by decide +kernel
theorem dX4_readByWays_48 : decode cX4_readByWays 48 = .ok (.ifCond .eq 67, 3) := by decide +kernel
theorem dX4_readByWays_51 : decode cX4_readByWays 51 = .ok (.iconst 0, 1) := by decide +kernel
theorem dX4_readByWays_52 : decode cX4_readByWays 52 = .ok (.istore_n 2, 1) := by decide +kernel
theorem dX4_readByWays_53 : decode cX4_readByWays 53 = .ok (.iconst 0, 1) := by decide +kernel
theorem dX4_readByWays_54 : decode cX4_readByWays 54 = .ok (.istore 4, 2) := by decide +kernel
theorem dX4_readByWays_56 : decode cX4_readByWays 56 = .ok (.iload 4, 2) := by decide +kernel
theorem dX4_readByWays_58 : decode cX4_readByWays 58 = .ok (.bipush 49, 2) := by decide +kernel
theorem dX4_readByWays_60 : decode cX4_readByWays 60 = .ok (.if_icmp .ge 49, 3) := by decide +kernel
theorem dX4_readByWays_63 : decode cX4_readByWays 63 = .ok (.aload_n 1, 1) := by decide +kernel
theorem dX4_readByWays_64 : decode cX4_readByWays 64 = .ok (.iload 4, 2) := by decide +kernel
theorem dX4_readByWays_66 : decode cX4_readByWays 66 = .ok (.invokevirtual 22, 3) := by decide +kernel
theorem dX4_readByWays_69 : decode cX4_readByWays 69 = .ok (.aload_n 0, 1) := by decide +kernel
theorem dX4_readByWays_70 : decode cX4_readByWays 70 = .ok (.iload 4, 2) := by decide +kernel
theorem dX4_readByWays_72 : decode cX4_readByWays 72 = .ok (.invokevirtual 28, 3) := by decide +kernel
theorem dX4_readByWays_75 : decode cX4_readByWays 75 = .ok (.invokestatic 31, 3) := by decide +kernel
theorem dX4_readByWays_78 : decode cX4_readByWays 78 = .ok (.istore 5, 2) := by decide +kernel
theorem dX4_readByWays_80 : decode cX4_readByWays 80 = .ok (.iload 5, 2) := by decide +kernel
theorem dX4_readByWays_82 : decode cX4_readByWays 82 = .ok (.aload_n 0, 1) := by decide +kernel
theorem dX4_readByWays_83 : decode cX4_readByWays 83 = .ok (.getfield 9, 3) := by decide +kernel
theorem dX4_readByWays_86 : decode cX4_readByWays 86 = .ok (.iload 4, 2) := by decide +kernel
theorem dX4_readByWays_88 : decode cX4_readByWays 88 = .ok (.iaload, 1) := by decide +kernel
theorem dX4_readByWays_89 : decode cX4_readByWays 89 = .ok (.if_icmp .ge 14, 3) := by decide +kernel
theorem dX4_readByWays_92 : decode cX4_readByWays 92 = .ok (.aload_n 0, 1) := by decide +kernel
theorem dX4_readByWays_93 : decode cX4_readByWays 93 = .ok (.getfield 9, 3) := by decide +kernel
theorem dX4_readByWays_96 : decode cX4_readByWays 96 = .ok (.iload 4, 2) := by decide +kernel
theorem dX4_readByWays_98 : decode cX4_readByWays 98 = .ok (.iload 5, 2) := by decide +kernel
theorem dX4_readByWays_100 : decode cX4_readByWays 100 = .ok (.iastore, 1) := by decide +kernel
theorem dX4_readByWays_101 : decode cX4_readByWays 101 = .ok (.iconst 1, 1) := by decide +kernel
theorem dX4_readByWays_102 : decode cX4_readByWays 102 = .ok (.istore_n 2, 1) := by decide +kernel
theorem dX4_readByWays_103 : decode cX4_readByWays 103 = .ok (.iinc 4 1, 3) := by decide +kernel
theorem dX4_readByWays_106 : decode cX4_readByWays 106 = .ok (.goto (-50), 3) := by decide +kernel
theorem dX4_readByWays_109 : decode cX4_readByWays 109 = .ok (.iinc 3 1, 3) := by decide +kernel
theorem dX4_readByWays_112 : decode cX4_readByWays 112 = .ok (.goto (-71), 3) := by decide +kernel
theorem dX4_readByWays_115 : decode cX4_readByWays 115 = .ok (.return_, 1) := by decide +kernel
theorem dX4_leastAround_0 : decode cX4_leastAround 0 = .ok (.bipush 99, 2) := by decide +kernel
theorem dX4_leastAround_2 : decode cX4_leastAround 2 = .ok (.istore_n 2, 1) := by decide +kernel
theorem dX4_leastAround_3 : decode cX4_leastAround 3 = .ok (.iconst 0, 1) := by decide +kernel
theorem dX4_leastAround_4 : decode cX4_leastAround 4 = .ok (.istore_n 3, 1) := by decide +kernel
theorem dX4_leastAround_5 : decode cX4_leastAround 5 = .ok (.iload_n 3, 1) := by decide +kernel
theorem dX4_leastAround_6 : decode cX4_leastAround 6 = .ok (.iconst 4, 1) := by decide +kernel
theorem dX4_leastAround_7 : decode cX4_leastAround 7 = .ok (.if_icmp .ge 36, 3) := by decide +kernel
theorem dX4_leastAround_10 : decode cX4_leastAround 10 = .ok (.iload_n 1, 1) := by decide +kernel
theorem dX4_leastAround_11 : decode cX4_leastAround 11 = .ok (.iload_n 3, 1) := by decide +kernel
theorem dX4_leastAround_12 : decode cX4_leastAround 12 = .ok (.invokestatic 37, 3) := by decide +kernel
theorem dX4_leastAround_15 : decode cX4_leastAround 15 = .ok (.istore 4, 2) := by decide +kernel
theorem dX4_leastAround_17 : decode cX4_leastAround 17 = .ok (.iload 4, 2) := by decide +kernel
theorem dX4_leastAround_19 : decode cX4_leastAround 19 = .ok (.invokestatic 40, 3) := by decide +kernel
theorem dX4_leastAround_22 : decode cX4_leastAround 22 = .ok (.ifCond .eq 15, 3) := by decide +kernel
theorem dX4_leastAround_25 : decode cX4_leastAround 25 = .ok (.iload_n 2, 1) := by decide +kernel
theorem dX4_leastAround_26 : decode cX4_leastAround 26 = .ok (.aload_n 0, 1) := by decide +kernel
theorem dX4_leastAround_27 : decode cX4_leastAround 27 = .ok (.getfield 9, 3) := by decide +kernel
theorem dX4_leastAround_30 : decode cX4_leastAround 30 = .ok (.iload 4, 2) := by decide +kernel
theorem dX4_leastAround_32 : decode cX4_leastAround 32 = .ok (.iaload, 1) := by decide +kernel
theorem dX4_leastAround_33 : decode cX4_leastAround 33 = .ok (.invokestatic 43, 3) := by decide +kernel
theorem dX4_leastAround_36 : decode cX4_leastAround 36 = .ok (.istore_n 2, 1) := by decide +kernel
theorem dX4_leastAround_37 : decode cX4_leastAround 37 = .ok (.iinc 3 1, 3) := by decide +kernel
theorem dX4_leastAround_40 : decode cX4_leastAround 40 = .ok (.goto (-35), 3) := by decide +kernel
theorem dX4_leastAround_43 : decode cX4_leastAround 43 = .ok (.iload_n 2, 1) := by decide +kernel
theorem dX4_leastAround_44 : decode cX4_leastAround 44 = .ok (.ireturn, 1) := by decide +kernel
theorem dX4_readByLevels_0 : decode cX4_readByLevels 0 = .ok (.bipush 99, 2) := by decide +kernel
theorem dX4_readByLevels_2 : decode cX4_readByLevels 2 = .ok (.istore_n 3, 1) := by decide +kernel
theorem dX4_readByLevels_3 : decode cX4_readByLevels 3 = .ok (.iload_n 3, 1) := by decide +kernel
theorem dX4_readByLevels_4 : decode cX4_readByLevels 4 = .ok (.ifCond .lt 24, 3) := by decide +kernel
theorem dX4_readByLevels_7 : decode cX4_readByLevels 7 = .ok (.aload_n 1, 1) := by decide +kernel
theorem dX4_readByLevels_8 : decode cX4_readByLevels 8 = .ok (.iload_n 3, 1) := by decide +kernel
theorem dX4_readByLevels_9 : decode cX4_readByLevels 9 = .ok (.invokevirtual 46, 3) := by decide +kernel
theorem dX4_readByLevels_12 : decode cX4_readByLevels 12 = .ok (.ifCond .eq 10, 3) := by decide +kernel
theorem dX4_readByLevels_15 : decode cX4_readByLevels 15 = .ok (.aload_n 0, 1) := by decide +kernel
theorem dX4_readByLevels_16 : decode cX4_readByLevels 16 = .ok (.aload_n 1, 1) := by decide +kernel
theorem dX4_readByLevels_17 : decode cX4_readByLevels 17 = .ok (.aload_n 2, 1) := by decide +kernel
theorem dX4_readByLevels_18 : decode cX4_readByLevels 18 = .ok (.iload_n 3, 1) := by decide +kernel
theorem dX4_readByLevels_19 : decode cX4_readByLevels 19 = .ok (.invokevirtual 49, 3) := by decide +kernel
theorem dX4_readByLevels_22 : decode cX4_readByLevels 22 = .ok (.iinc 3 (-1), 3) := by decide +kernel
theorem dX4_readByLevels_25 : decode cX4_readByLevels 25 = .ok (.goto (-22), 3) := by decide +kernel
theorem dX4_readByLevels_28 : decode cX4_readByLevels 28 = .ok (.return_, 1) := by decide +kernel
theorem dX4_readLevel_0 : decode cX4_readLevel 0 = .ok (.aload_n 2, 1) := by decide +kernel
theorem dX4_readLevel_1 : decode cX4_readLevel 1 = .ok (.invokevirtual 53, 3) := by decide +kernel
theorem dX4_readLevel_4 : decode cX4_readLevel 4 = .ok (.iconst 0, 1) := by decide +kernel
theorem dX4_readLevel_5 : decode cX4_readLevel 5 = .ok (.istore 4, 2) := by decide +kernel
theorem dX4_readLevel_7 : decode cX4_readLevel 7 = .ok (.iload 4, 2) := by decide +kernel
theorem dX4_readLevel_9 : decode cX4_readLevel 9 = .ok (.bipush 49, 2) := by decide +kernel
theorem dX4_readLevel_11 : decode cX4_readLevel 11 = .ok (.if_icmp .ge 25, 3) := by decide +kernel
theorem dX4_readLevel_14 : decode cX4_readLevel 14 = .ok (.aload_n 1, 1) := by decide +kernel
theorem dX4_readLevel_15 : decode cX4_readLevel 15 = .ok (.iload 4, 2) := by decide +kernel
theorem dX4_readLevel_17 : decode cX4_readLevel 17 = .ok (.invokevirtual 22, 3) := by decide +kernel
theorem dX4_readLevel_20 : decode cX4_readLevel 20 = .ok (.iload_n 3, 1) := by decide +kernel
theorem dX4_readLevel_21 : decode cX4_readLevel 21 = .ok (.if_icmp .gt 9, 3) := by decide +kernel
theorem dX4_readLevel_24 : decode cX4_readLevel 24 = .ok (.aload_n 2, 1) := by decide +kernel
theorem dX4_readLevel_25 : decode cX4_readLevel 25 = .ok (.iload 4, 2) := by decide +kernel
theorem dX4_readLevel_27 : decode cX4_readLevel 27 = .ok (.invokevirtual 58, 3) := by decide +kernel
theorem dX4_readLevel_30 : decode cX4_readLevel 30 = .ok (.iinc 4 1, 3) := by decide +kernel
theorem dX4_readLevel_33 : decode cX4_readLevel 33 = .ok (.goto (-26), 3) := by decide +kernel
theorem dX4_readLevel_36 : decode cX4_readLevel 36 = .ok (.iconst 0, 1) := by decide +kernel
theorem dX4_readLevel_37 : decode cX4_readLevel 37 = .ok (.istore 4, 2) := by decide +kernel
theorem dX4_readLevel_39 : decode cX4_readLevel 39 = .ok (.iload 4, 2) := by decide +kernel
theorem dX4_readLevel_41 : decode cX4_readLevel 41 = .ok (.bipush 49, 2) := by decide +kernel
theorem dX4_readLevel_43 : decode cX4_readLevel 43 = .ok (.if_icmp .ge 24, 3) := by decide +kernel
theorem dX4_readLevel_46 : decode cX4_readLevel 46 = .ok (.iload 4, 2) := by decide +kernel
theorem dX4_readLevel_48 : decode cX4_readLevel 48 = .ok (.invokestatic 18, 3) := by decide +kernel
theorem dX4_readLevel_51 : decode cX4_readLevel 51 = .ok (.ifCond .eq 10, 3) := by decide +kernel
theorem dX4_readLevel_54 : decode cX4_readLevel 54 = .ok (.aload_n 2, 1) := by decide +kernel
theorem dX4_readLevel_55 : decode cX4_readLevel 55 = .ok (.iload 4, 2) := by decide +kernel
theorem dX4_readLevel_57 : decode cX4_readLevel 57 = .ok (.iconst 4, 1) := by decide +kernel
theorem dX4_readLevel_58 : decode cX4_readLevel 58 = .ok (.invokevirtual 62, 3) := by decide +kernel
theorem dX4_readLevel_61 : decode cX4_readLevel 61 = .ok (.iinc 4 1, 3) := by decide +kernel
theorem dX4_readLevel_64 : decode cX4_readLevel 64 = .ok (.goto (-25), 3) := by decide +kernel
theorem dX4_readLevel_67 : decode cX4_readLevel 67 = .ok (.iconst 0, 1) := by decide +kernel
theorem dX4_readLevel_68 : decode cX4_readLevel 68 = .ok (.istore 4, 2) := by decide +kernel
theorem dX4_readLevel_70 : decode cX4_readLevel 70 = .ok (.iload 4, 2) := by decide +kernel
theorem dX4_readLevel_72 : decode cX4_readLevel 72 = .ok (.bipush 49, 2) := by decide +kernel
theorem dX4_readLevel_74 : decode cX4_readLevel 74 = .ok (.if_icmp .ge 36, 3) := by decide +kernel
theorem dX4_readLevel_77 : decode cX4_readLevel 77 = .ok (.aload_n 1, 1) := by decide +kernel
theorem dX4_readLevel_78 : decode cX4_readLevel 78 = .ok (.iload 4, 2) := by decide +kernel
theorem dX4_readLevel_80 : decode cX4_readLevel 80 = .ok (.invokevirtual 22, 3) := by decide +kernel
theorem dX4_readLevel_83 : decode cX4_readLevel 83 = .ok (.iload_n 3, 1) := by decide +kernel
theorem dX4_readLevel_84 : decode cX4_readLevel 84 = .ok (.if_icmp .gt 20, 3) := by decide +kernel
theorem dX4_readLevel_87 : decode cX4_readLevel 87 = .ok (.aload_n 2, 1) := by decide +kernel
theorem dX4_readLevel_88 : decode cX4_readLevel 88 = .ok (.iload 4, 2) := by decide +kernel
theorem dX4_readLevel_90 : decode cX4_readLevel 90 = .ok (.invokevirtual 66, 3) := by decide +kernel
theorem dX4_readLevel_93 : decode cX4_readLevel 93 = .ok (.ifCond .ne 11, 3) := by decide +kernel
theorem dX4_readLevel_96 : decode cX4_readLevel 96 = .ok (.aload_n 0, 1) := by decide +kernel
theorem dX4_readLevel_97 : decode cX4_readLevel 97 = .ok (.getfield 15, 3) := by decide +kernel
theorem dX4_readLevel_100 : decode cX4_readLevel 100 = .ok (.iload 4, 2) := by decide +kernel
theorem dX4_readLevel_102 : decode cX4_readLevel 102 = .ok (.iload_n 3, 1) := by decide +kernel
theorem dX4_readLevel_103 : decode cX4_readLevel 103 = .ok (.iastore, 1) := by decide +kernel
theorem dX4_readLevel_104 : decode cX4_readLevel 104 = .ok (.iinc 4 1, 3) := by decide +kernel
theorem dX4_readLevel_107 : decode cX4_readLevel 107 = .ok (.goto (-37), 3) := by decide +kernel
theorem dX4_readLevel_110 : decode cX4_readLevel 110 = .ok (.return_, 1) := by decide +kernel
theorem dX4_wayHeight_0 : decode cX4_wayHeight 0 = .ok (.iload_n 1, 1) := by decide +kernel
theorem dX4_wayHeight_1 : decode cX4_wayHeight 1 = .ok (.invokestatic 40, 3) := by decide +kernel
theorem dX4_wayHeight_4 : decode cX4_wayHeight 4 = .ok (.ifCond .eq 12, 3) := by decide +kernel
theorem dX4_wayHeight_7 : decode cX4_wayHeight 7 = .ok (.aload_n 0, 1) := by decide +kernel
theorem dX4_wayHeight_8 : decode cX4_wayHeight 8 = .ok (.getfield 9, 3) := by decide +kernel
theorem dX4_wayHeight_11 : decode cX4_wayHeight 11 = .ok (.iload_n 1, 1) := by decide +kernel
theorem dX4_wayHeight_12 : decode cX4_wayHeight 12 = .ok (.iaload, 1) := by decide +kernel
theorem dX4_wayHeight_13 : decode cX4_wayHeight 13 = .ok (.goto 4, 3) := by decide +kernel
theorem dX4_wayHeight_16 : decode cX4_wayHeight 16 = .ok (.iconst 0, 1) := by decide +kernel
theorem dX4_wayHeight_17 : decode cX4_wayHeight 17 = .ok (.ireturn, 1) := by decide +kernel
theorem dX4_levelHeight_0 : decode cX4_levelHeight 0 = .ok (.iload_n 1, 1) := by decide +kernel
theorem dX4_levelHeight_1 : decode cX4_levelHeight 1 = .ok (.invokestatic 40, 3) := by decide +kernel
theorem dX4_levelHeight_4 : decode cX4_levelHeight 4 = .ok (.ifCond .eq 12, 3) := by decide +kernel
theorem dX4_levelHeight_7 : decode cX4_levelHeight 7 = .ok (.aload_n 0, 1) := by decide +kernel
theorem dX4_levelHeight_8 : decode cX4_levelHeight 8 = .ok (.getfield 15, 3) := by decide +kernel
theorem dX4_levelHeight_11 : decode cX4_levelHeight 11 = .ok (.iload_n 1, 1) := by decide +kernel
theorem dX4_levelHeight_12 : decode cX4_levelHeight 12 = .ok (.iaload, 1) := by decide +kernel
theorem dX4_levelHeight_13 : decode cX4_levelHeight 13 = .ok (.goto 4, 3) := by decide +kernel
theorem dX4_levelHeight_16 : decode cX4_levelHeight 16 = .ok (.iconst 0, 1) := by decide +kernel
theorem dX4_levelHeight_17 : decode cX4_levelHeight 17 = .ok (.ireturn, 1) := by decide +kernel
theorem dX5_init_0 : decode cX5_init 0 = .ok (.aload_n 0, 1) := by decide +kernel
theorem dX5_init_1 : decode cX5_init 1 = .ok (.invokespecial 3, 3) := by decide +kernel
theorem dX5_init_4 : decode cX5_init 4 = .ok (.aload_n 0, 1) := by decide +kernel
theorem dX5_init_5 : decode cX5_init 5 = .ok (.bipush 49, 2) := by decide +kernel
theorem dX5_init_7 : decode cX5_init 7 = .ok (.newarray .boolean, 2) := by decide +kernel
theorem dX5_init_9 : decode cX5_init 9 = .ok (.putfield 9, 3) := by decide +kernel
theorem dX5_init_12 : decode cX5_init 12 = .ok (.aload_n 0, 1) := by decide +kernel
theorem dX5_init_13 : decode cX5_init 13 = .ok (.bipush 49, 2) := by decide +kernel
theorem dX5_init_15 : decode cX5_init 15 = .ok (.newarray .int, 2) := by decide +kernel
theorem dX5_init_17 : decode cX5_init 17 = .ok (.putfield 15, 3) := by decide +kernel
theorem dX5_init_20 : decode cX5_init 20 = .ok (.return_, 1) := by decide +kernel
theorem dX5_clear_0 : decode cX5_clear 0 = .ok (.iconst 0, 1) := by decide +kernel
theorem dX5_clear_1 : decode cX5_clear 1 = .ok (.istore_n 1, 1) := by decide +kernel
theorem dX5_clear_2 : decode cX5_clear 2 = .ok (.iload_n 1, 1) := by decide +kernel
theorem dX5_clear_3 : decode cX5_clear 3 = .ok (.bipush 49, 2) := by decide +kernel
theorem dX5_clear_5 : decode cX5_clear 5 = .ok (.if_icmp .ge 16, 3) := by decide +kernel
theorem dX5_clear_8 : decode cX5_clear 8 = .ok (.aload_n 0, 1) := by decide +kernel
theorem dX5_clear_9 : decode cX5_clear 9 = .ok (.getfield 9, 3) := by decide +kernel
theorem dX5_clear_12 : decode cX5_clear 12 = .ok (.iload_n 1, 1) := by decide +kernel
theorem dX5_clear_13 : decode cX5_clear 13 = .ok (.iconst 0, 1) := by decide +kernel
theorem dX5_clear_14 : decode cX5_clear 14 = .ok (.bastore, 1) := by decide +kernel
theorem dX5_clear_15 : decode cX5_clear 15 = .ok (.iinc 1 1, 3) := by decide +kernel
theorem dX5_clear_18 : decode cX5_clear 18 = .ok (.goto (-16), 3) := by decide +kernel
theorem dX5_clear_21 : decode cX5_clear 21 = .ok (.return_, 1) := by decide +kernel
theorem dX5_add_0 : decode cX5_add 0 = .ok (.iload_n 1, 1) := by decide +kernel
theorem dX5_add_1 : decode cX5_add 1 = .ok (.invokestatic 19, 3) := by decide +kernel
theorem dX5_add_4 : decode cX5_add 4 = .ok (.ifCond .eq 10, 3) := by decide +kernel
theorem dX5_add_7 : decode cX5_add 7 = .ok (.aload_n 0, 1) := by decide +kernel
theorem dX5_add_8 : decode cX5_add 8 = .ok (.getfield 9, 3) := by decide +kernel
theorem dX5_add_11 : decode cX5_add 11 = .ok (.iload_n 1, 1) := by decide +kernel
theorem dX5_add_12 : decode cX5_add 12 = .ok (.iconst 1, 1) := by decide +kernel
theorem dX5_add_13 : decode cX5_add 13 = .ok (.bastore, 1) := by decide +kernel
theorem dX5_add_14 : decode cX5_add 14 = .ok (.return_, 1) := by decide +kernel
theorem dX5_isWaiting_0 : decode cX5_isWaiting 0 = .ok (.iload_n 1, 1) := by decide +kernel
theorem dX5_isWaiting_1 : decode cX5_isWaiting 1 = .ok (.invokestatic 19, 3) := by decide +kernel
theorem dX5_isWaiting_4 : decode cX5_isWaiting 4 = .ok (.ifCond .eq 16, 3) := by decide +kernel
theorem dX5_isWaiting_7 : decode cX5_isWaiting 7 = .ok (.aload_n 0, 1) := by decide +kernel
theorem dX5_isWaiting_8 : decode cX5_isWaiting 8 = .ok (.getfield 9, 3) := by decide +kernel
theorem dX5_isWaiting_11 : decode cX5_isWaiting 11 = .ok (.iload_n 1, 1) := by decide +kernel
theorem dX5_isWaiting_12 : decode cX5_isWaiting 12 = .ok (.baload, 1) := by decide +kernel
theorem dX5_isWaiting_13 : decode cX5_isWaiting 13 = .ok (.ifCond .eq 7, 3) := by decide +kernel
theorem dX5_isWaiting_16 : decode cX5_isWaiting 16 = .ok (.iconst 1, 1) := by decide +kernel
theorem dX5_isWaiting_17 : decode cX5_isWaiting 17 = .ok (.goto 4, 3) := by decide +kernel
theorem dX5_isWaiting_20 : decode cX5_isWaiting 20 = .ok (.iconst 0, 1) := by decide +kernel
theorem dX5_isWaiting_21 : decode cX5_isWaiting 21 = .ok (.ireturn, 1) := by decide +kernel
theorem dX5_count_0 : decode cX5_count 0 = .ok (.iconst 0, 1) := by decide +kernel
theorem dX5_count_1 : decode cX5_count 1 = .ok (.istore_n 2, 1) := by decide +kernel
theorem dX5_count_2 : decode cX5_count 2 = .ok (.iconst 0, 1) := by decide +kernel
theorem dX5_count_3 : decode cX5_count 3 = .ok (.istore_n 3, 1) := by decide +kernel
theorem dX5_count_4 : decode cX5_count 4 = .ok (.iload_n 3, 1) := by decide +kernel
theorem dX5_count_5 : decode cX5_count 5 = .ok (.bipush 49, 2) := by decide +kernel
theorem dX5_count_7 : decode cX5_count 7 = .ok (.if_icmp .ge 27, 3) := by decide +kernel
theorem dX5_count_10 : decode cX5_count 10 = .ok (.aload_n 0, 1) := by decide +kernel
theorem dX5_count_11 : decode cX5_count 11 = .ok (.getfield 9, 3) := by decide +kernel
theorem dX5_count_14 : decode cX5_count 14 = .ok (.iload_n 3, 1) := by decide +kernel
theorem dX5_count_15 : decode cX5_count 15 = .ok (.baload, 1) := by decide +kernel
theorem dX5_count_16 : decode cX5_count 16 = .ok (.ifCond .eq 12, 3) := by decide +kernel
theorem dX5_count_19 : decode cX5_count 19 = .ok (.iinc 2 1, 3) := by decide +kernel
theorem dX5_count_22 : decode cX5_count 22 = .ok (.aload_n 0, 1) := by decide +kernel
theorem dX5_count_23 : decode cX5_count 23 = .ok (.iload_n 3, 1) := by decide +kernel
theorem dX5_count_24 : decode cX5_count 24 = .ok (.iload_n 1, 1) := by decide +kernel
theorem dX5_count_25 : decode cX5_count 25 = .ok (.invokevirtual 23, 3) := by decide +kernel
theorem dX5_count_28 : decode cX5_count 28 = .ok (.iinc 3 1, 3) := by decide +kernel
theorem dX5_count_31 : decode cX5_count 31 = .ok (.goto (-27), 3) := by decide +kernel
theorem dX5_count_34 : decode cX5_count 34 = .ok (.iload_n 2, 1) := by decide +kernel
theorem dX5_count_35 : decode cX5_count 35 = .ok (.ireturn, 1) := by decide +kernel
theorem dX5_reach_0 : decode cX5_reach 0 = .ok (.aload_n 0, 1) := by decide +kernel
theorem dX5_reach_1 : decode cX5_reach 1 = .ok (.iload_n 1, 1) := by decide +kernel
theorem dX5_reach_2 : decode cX5_reach 2 = .ok (.invokevirtual 27, 3) := by decide +kernel
theorem dX5_reach_5 : decode cX5_reach 5 = .ok (.ifCond .ne 4, 3) := by decide +kernel
theorem dX5_reach_8 : decode cX5_reach 8 = .ok (.return_, 1) := by decide +kernel
theorem dX5_reach_9 : decode cX5_reach 9 = .ok (.aload_n 0, 1) := by decide +kernel
theorem dX5_reach_10 : decode cX5_reach 10 = .ok (.getfield 9, 3) := by decide +kernel
theorem dX5_reach_13 : decode cX5_reach 13 = .ok (.iload_n 1, 1) := by decide +kernel
theorem dX5_reach_14 : decode cX5_reach 14 = .ok (.iconst 0, 1) := by decide +kernel
theorem dX5_reach_15 : decode cX5_reach 15 = .ok (.bastore, 1) := by decide +kernel
theorem dX5_reach_16 : decode cX5_reach 16 = .ok (.aload_n 0, 1) := by decide +kernel
theorem dX5_reach_17 : decode cX5_reach 17 = .ok (.getfield 15, 3) := by decide +kernel
theorem dX5_reach_20 : decode cX5_reach 20 = .ok (.iconst 0, 1) := by decide +kernel
theorem dX5_reach_21 : decode cX5_reach 21 = .ok (.iload_n 1, 1) := by decide +kernel
theorem dX5_reach_22 : decode cX5_reach 22 = .ok (.iastore, 1) := by decide +kernel
theorem dX5_reach_23 : decode cX5_reach 23 = .ok (.iconst 1, 1) := by decide +kernel
theorem dX5_reach_24 : decode cX5_reach 24 = .ok (.istore_n 3, 1) := by decide +kernel
theorem dX5_reach_25 : decode cX5_reach 25 = .ok (.iconst 0, 1) := by decide +kernel
theorem dX5_reach_26 : decode cX5_reach 26 = .ok (.istore 4, 2) := by decide +kernel
theorem dX5_reach_28 : decode cX5_reach 28 = .ok (.iload 4, 2) := by decide +kernel
theorem dX5_reach_30 : decode cX5_reach 30 = .ok (.iload_n 3, 1) := by decide +kernel
theorem dX5_reach_31 : decode cX5_reach 31 = .ok (.if_icmp .ge 79, 3) := by decide +kernel
theorem dX5_reach_34 : decode cX5_reach 34 = .ok (.iload 4, 2) := by decide +kernel
theorem dX5_reach_36 : decode cX5_reach 36 = .ok (.bipush 49, 2) := by decide +kernel
theorem dX5_reach_38 : decode cX5_reach 38 = .ok (.if_icmp .ge 72, 3) := by decide +kernel
theorem dX5_reach_41 : decode cX5_reach 41 = .ok (.iconst 0, 1) := by decide +kernel
theorem dX5_reach_42 : decode cX5_reach 42 = .ok (.istore 5, 2) := by decide +kernel
theorem dX5_reach_44 : decode cX5_reach 44 = .ok (.iload 5, 2) := by decide +kernel
theorem dX5_reach_46 : decode cX5_reach 46 = .ok (.iload_n 2, 1) := by decide +kernel
theorem dX5_reach_47 : decode cX5_reach 47 = .ok (.if_icmp .ge 57, 3) := by decide +kernel
theorem dX5_reach_50 : decode cX5_reach 50 = .ok (.aload_n 0, 1) := by decide +kernel
theorem dX5_reach_51 : decode cX5_reach 51 = .ok (.getfield 15, 3) := by decide +kernel
theorem dX5_reach_54 : decode cX5_reach 54 = .ok (.iload 4, 2) := by decide +kernel
theorem dX5_reach_56 : decode cX5_reach 56 = .ok (.iaload, 1) := by decide +kernel
theorem dX5_reach_57 : decode cX5_reach 57 = .ok (.iload 5, 2) := by decide +kernel
theorem dX5_reach_59 : decode cX5_reach 59 = .ok (.invokestatic 30, 3) := by decide +kernel
theorem dX5_reach_62 : decode cX5_reach 62 = .ok (.istore 6, 2) := by decide +kernel
theorem dX5_reach_64 : decode cX5_reach 64 = .ok (.aload_n 0, 1) := by decide +kernel
theorem dX5_reach_65 : decode cX5_reach 65 = .ok (.iload 6, 2) := by decide +kernel
theorem dX5_reach_67 : decode cX5_reach 67 = .ok (.invokevirtual 27, 3) := by decide +kernel
theorem dX5_reach_70 : decode cX5_reach 70 = .ok (.ifCond .eq 28, 3) := by decide +kernel
theorem dX5_reach_73 : decode cX5_reach 73 = .ok (.iload_n 3, 1) := by decide +kernel
theorem dX5_reach_74 : decode cX5_reach 74 = .ok (.bipush 49, 2) := by decide +kernel
theorem dX5_reach_76 : decode cX5_reach 76 = .ok (.if_icmp .ge 22, 3) := by decide +kernel
theorem dX5_reach_79 : decode cX5_reach 79 = .ok (.aload_n 0, 1) := by decide +kernel
theorem dX5_reach_80 : decode cX5_reach 80 = .ok (.getfield 9, 3) := by decide +kernel
theorem dX5_reach_83 : decode cX5_reach 83 = .ok (.iload 6, 2) := by decide +kernel
theorem dX5_reach_85 : decode cX5_reach 85 = .ok (.iconst 0, 1) := by decide +kernel
theorem dX5_reach_86 : decode cX5_reach 86 = .ok (.bastore, 1) := by decide +kernel
theorem dX5_reach_87 : decode cX5_reach 87 = .ok (.aload_n 0, 1) := by decide +kernel
theorem dX5_reach_88 : decode cX5_reach 88 = .ok (.getfield 15, 3) := by decide +kernel
theorem dX5_reach_91 : decode cX5_reach 91 = .ok (.iload_n 3, 1) := by decide +kernel
theorem dX5_reach_92 : decode cX5_reach 92 = .ok (.iload 6, 2) := by decide +kernel
theorem dX5_reach_94 : decode cX5_reach 94 = .ok (.iastore, 1) := by decide +kernel
theorem dX5_reach_95 : decode cX5_reach 95 = .ok (.iinc 3 1, 3) := by decide +kernel
theorem dX5_reach_98 : decode cX5_reach 98 = .ok (.iinc 5 1, 3) := by decide +kernel
theorem dX5_reach_101 : decode cX5_reach 101 = .ok (.goto (-57), 3) := by decide +kernel
theorem dX5_reach_104 : decode cX5_reach 104 = .ok (.iinc 4 1, 3) := by decide +kernel
theorem dX5_reach_107 : decode cX5_reach 107 = .ok (.goto (-79), 3) := by decide +kernel
theorem dX5_reach_110 : decode cX5_reach 110 = .ok (.return_, 1) := by decide +kernel
theorem dX6_init_0 : decode cX6_init 0 = .ok (.aload_n 0, 1) := by decide +kernel
theorem dX6_init_1 : decode cX6_init 1 = .ok (.invokespecial 3, 3) := by decide +kernel
theorem dX6_init_4 : decode cX6_init 4 = .ok (.aload_n 0, 1) := by decide +kernel
theorem dX6_init_5 : decode cX6_init 5 = .ok (.bipush 49, 2) := by decide +kernel
theorem dX6_init_7 : decode cX6_init 7 = .ok (.newarray .int, 2) := by decide +kernel
theorem dX6_init_9 : decode cX6_init 9 = .ok (.putfield 9, 3) := by decide +kernel
theorem dX6_init_12 : decode cX6_init 12 = .ok (.aload_n 0, 1) := by decide +kernel
theorem dX6_init_13 : decode cX6_init 13 = .ok (.bipush 49, 2) := by decide +kernel
theorem dX6_init_15 : decode cX6_init 15 = .ok (.newarray .int, 2) := by decide +kernel
theorem dX6_init_17 : decode cX6_init 17 = .ok (.putfield 15, 3) := by decide +kernel
theorem dX6_init_20 : decode cX6_init 20 = .ok (.aload_n 0, 1) := by decide +kernel
theorem dX6_init_21 : decode cX6_init 21 = .ok (.bipush 49, 2) := by decide +kernel
theorem dX6_init_23 : decode cX6_init 23 = .ok (.newarray .int, 2) := by decide +kernel
theorem dX6_init_25 : decode cX6_init 25 = .ok (.putfield 18, 3) := by decide +kernel
theorem dX6_init_28 : decode cX6_init 28 = .ok (.return_, 1) := by decide +kernel
theorem dX6_at_0 : decode cX6_at 0 = .ok (.iload_n 1, 1) := by decide +kernel
theorem dX6_at_1 : decode cX6_at 1 = .ok (.invokestatic 21, 3) := by decide +kernel
theorem dX6_at_4 : decode cX6_at 4 = .ok (.ifCond .eq 12, 3) := by decide +kernel
theorem dX6_at_7 : decode cX6_at 7 = .ok (.aload_n 0, 1) := by decide +kernel
theorem dX6_at_8 : decode cX6_at 8 = .ok (.getfield 9, 3) := by decide +kernel
theorem dX6_at_11 : decode cX6_at 11 = .ok (.iload_n 1, 1) := by decide +kernel
theorem dX6_at_12 : decode cX6_at 12 = .ok (.iaload, 1) := by decide +kernel
theorem dX6_at_13 : decode cX6_at 13 = .ok (.goto 4, 3) := by decide +kernel
theorem dX6_at_16 : decode cX6_at 16 = .ok (.iconst 0, 1) := by decide +kernel
theorem dX6_at_17 : decode cX6_at 17 = .ok (.ireturn, 1) := by decide +kernel
theorem dX6_put_0 : decode cX6_put 0 = .ok (.iload_n 1, 1) := by decide +kernel
theorem dX6_put_1 : decode cX6_put 1 = .ok (.invokestatic 21, 3) := by decide +kernel
theorem dX6_put_4 : decode cX6_put 4 = .ok (.ifCond .eq 19, 3) := by decide +kernel
theorem dX6_put_7 : decode cX6_put 7 = .ok (.aload_n 0, 1) := by decide +kernel
theorem dX6_put_8 : decode cX6_put 8 = .ok (.getfield 9, 3) := by decide +kernel
theorem dX6_put_11 : decode cX6_put 11 = .ok (.iload_n 1, 1) := by decide +kernel
theorem dX6_put_12 : decode cX6_put 12 = .ok (.iconst 0, 1) := by decide +kernel
theorem dX6_put_13 : decode cX6_put 13 = .ok (.bipush 99, 2) := by decide +kernel
theorem dX6_put_15 : decode cX6_put 15 = .ok (.iload_n 2, 1) := by decide +kernel
theorem dX6_put_16 : decode cX6_put 16 = .ok (.invokestatic 25, 3) := by decide +kernel
theorem dX6_put_19 : decode cX6_put 19 = .ok (.invokestatic 31, 3) := by decide +kernel
theorem dX6_put_22 : decode cX6_put 22 = .ok (.iastore, 1) := by decide +kernel
theorem dX6_put_23 : decode cX6_put 23 = .ok (.return_, 1) := by decide +kernel
theorem dX6_has_0 : decode cX6_has 0 = .ok (.iconst 0, 1) := by decide +kernel
theorem dX6_has_1 : decode cX6_has 1 = .ok (.istore_n 2, 1) := by decide +kernel
theorem dX6_has_2 : decode cX6_has 2 = .ok (.iload_n 2, 1) := by decide +kernel
theorem dX6_has_3 : decode cX6_has 3 = .ok (.bipush 49, 2) := by decide +kernel
theorem dX6_has_5 : decode cX6_has 5 = .ok (.if_icmp .ge 21, 3) := by decide +kernel
theorem dX6_has_8 : decode cX6_has 8 = .ok (.aload_n 0, 1) := by decide +kernel
theorem dX6_has_9 : decode cX6_has 9 = .ok (.getfield 9, 3) := by decide +kernel
theorem dX6_has_12 : decode cX6_has 12 = .ok (.iload_n 2, 1) := by decide +kernel
theorem dX6_has_13 : decode cX6_has 13 = .ok (.iaload, 1) := by decide +kernel
theorem dX6_has_14 : decode cX6_has 14 = .ok (.iload_n 1, 1) := by decide +kernel
theorem dX6_has_15 : decode cX6_has 15 = .ok (.if_icmp .ne 5, 3) := by decide +kernel
theorem dX6_has_18 : decode cX6_has 18 = .ok (.iconst 1, 1) := by decide +kernel
theorem dX6_has_19 : decode cX6_has 19 = .ok (.ireturn, 1) := by decide +kernel
theorem dX6_has_20 : decode cX6_has 20 = .ok (.iinc 2 1, 3) := by decide +kernel
theorem dX6_has_23 : decode cX6_has 23 = .ok (.goto (-21), 3) := by decide +kernel
theorem dX6_has_26 : decode cX6_has 26 = .ok (.iconst 0, 1) := by decide +kernel
theorem dX6_has_27 : decode cX6_has 27 = .ok (.ireturn, 1) := by decide +kernel
theorem dX6_heapUp_0 : decode cX6_heapUp 0 = .ok (.aload_n 0, 1) := by decide +kernel
theorem dX6_heapUp_1 : decode cX6_heapUp 1 = .ok (.invokevirtual 34, 3) := by decide +kernel
theorem dX6_heapUp_4 : decode cX6_heapUp 4 = .ok (.iload_n 2, 1) := by decide +kernel
theorem dX6_heapUp_5 : decode cX6_heapUp 5 = .ok (.invokestatic 37, 3) := by decide +kernel
theorem dX6_heapUp_8 : decode cX6_heapUp 8 = .ok (.istore_n 3, 1) := by decide +kernel
theorem dX6_heapUp_9 : decode cX6_heapUp 9 = .ok (.iload_n 3, 1) := by decide +kernel
theorem dX6_heapUp_10 : decode cX6_heapUp 10 = .ok (.iconst 2, 1) := by decide +kernel
theorem dX6_heapUp_11 : decode cX6_heapUp 11 = .ok (.iadd, 1) := by decide +kernel
theorem dX6_heapUp_12 : decode cX6_heapUp 12 = .ok (.iconst 3, 1) := by decide +kernel
theorem dX6_heapUp_13 : decode cX6_heapUp 13 = .ok (.idiv, 1) := by decide +kernel
theorem dX6_heapUp_14 : decode cX6_heapUp 14 = .ok (.istore 4, 2) := by decide +kernel
theorem dX6_heapUp_16 : decode cX6_heapUp 16 = .ok (.iconst 0, 1) := by decide +kernel
theorem dX6_heapUp_17 : decode cX6_heapUp 17 = .ok (.istore 5, 2) := by decide +kernel
theorem dX6_heapUp_19 : decode cX6_heapUp 19 = .ok (.iload 5, 2) := by decide +kernel
theorem dX6_heapUp_21 : decode cX6_heapUp 21 = .ok (.bipush 49, 2) := by decide +kernel
theorem dX6_heapUp_23 : decode cX6_heapUp 23 = .ok (.if_icmp .ge 82, 3) := by decide +kernel
theorem dX6_heapUp_26 : decode cX6_heapUp 26 = .ok (.iload 5, 2) := by decide +kernel
theorem dX6_heapUp_28 : decode cX6_heapUp 28 = .ok (.bipush 7, 2) := by decide +kernel
theorem dX6_heapUp_30 : decode cX6_heapUp 30 = .ok (.idiv, 1) := by decide +kernel
theorem dX6_heapUp_31 : decode cX6_heapUp 31 = .ok (.iload_n 1, 1) := by decide +kernel
theorem dX6_heapUp_32 : decode cX6_heapUp 32 = .ok (.bipush 7, 2) := by decide +kernel
theorem dX6_heapUp_34 : decode cX6_heapUp 34 = .ok (.idiv, 1) := by decide +kernel
theorem dX6_heapUp_35 : decode cX6_heapUp 35 = .ok (.isub, 1) := by decide +kernel
theorem dX6_heapUp_36 : decode cX6_heapUp 36 = .ok (.invokestatic 37, 3) := by decide +kernel
theorem dX6_heapUp_39 : decode cX6_heapUp 39 = .ok (.istore 6, 2) := by decide +kernel
theorem dX6_heapUp_41 : decode cX6_heapUp 41 = .ok (.iload 5, 2) := by decide +kernel
theorem dX6_heapUp_43 : decode cX6_heapUp 43 = .ok (.bipush 7, 2) := by decide +kernel
theorem dX6_heapUp_45 : decode cX6_heapUp 45 = .ok (.irem, 1) := by decide +kernel
theorem dX6_heapUp_46 : decode cX6_heapUp 46 = .ok (.iload_n 1, 1) := by decide +kernel
theorem dX6_heapUp_47 : decode cX6_heapUp 47 = .ok (.bipush 7, 2) := by decide +kernel
theorem dX6_heapUp_49 : decode cX6_heapUp 49 = .ok (.irem, 1) := by decide +kernel
theorem dX6_heapUp_50 : decode cX6_heapUp 50 = .ok (.isub, 1) := by decide +kernel
theorem dX6_heapUp_51 : decode cX6_heapUp 51 = .ok (.invokestatic 37, 3) := by decide +kernel
theorem dX6_heapUp_54 : decode cX6_heapUp 54 = .ok (.istore 7, 2) := by decide +kernel
theorem dX6_heapUp_56 : decode cX6_heapUp 56 = .ok (.iload_n 3, 1) := by decide +kernel
theorem dX6_heapUp_57 : decode cX6_heapUp 57 = .ok (.iload 6, 2) := by decide +kernel
theorem dX6_heapUp_59 : decode cX6_heapUp 59 = .ok (.iload 7, 2) := by decide +kernel
theorem dX6_heapUp_61 : decode cX6_heapUp 61 = .ok (.iadd, 1) := by decide +kernel
theorem dX6_heapUp_62 : decode cX6_heapUp 62 = .ok (.iload 4, 2) := by decide +kernel
theorem dX6_heapUp_64 : decode cX6_heapUp 64 = .ok (.imul, 1) := by decide +kernel
theorem dX6_heapUp_65 : decode cX6_heapUp 65 = .ok (.isub, 1) := by decide +kernel
theorem dX6_heapUp_66 : decode cX6_heapUp 66 = .ok (.istore 8, 2) := by decide +kernel
theorem dX6_heapUp_68 : decode cX6_heapUp 68 = .ok (.iload 8, 2) := by decide +kernel
theorem dX6_heapUp_70 : decode cX6_heapUp 70 = .ok (.ifCond .le 29, 3) := by decide +kernel
theorem dX6_heapUp_73 : decode cX6_heapUp 73 = .ok (.aload_n 0, 1) := by decide +kernel
theorem dX6_heapUp_74 : decode cX6_heapUp 74 = .ok (.iload 5, 2) := by decide +kernel
theorem dX6_heapUp_76 : decode cX6_heapUp 76 = .ok (.aload_n 0, 1) := by decide +kernel
theorem dX6_heapUp_77 : decode cX6_heapUp 77 = .ok (.getfield 9, 3) := by decide +kernel
theorem dX6_heapUp_80 : decode cX6_heapUp 80 = .ok (.iload 5, 2) := by decide +kernel
theorem dX6_heapUp_82 : decode cX6_heapUp 82 = .ok (.iaload, 1) := by decide +kernel
theorem dX6_heapUp_83 : decode cX6_heapUp 83 = .ok (.iload_n 2, 1) := by decide +kernel
theorem dX6_heapUp_84 : decode cX6_heapUp 84 = .ok (.ifCond .le 8, 3) := by decide +kernel
theorem dX6_heapUp_87 : decode cX6_heapUp 87 = .ok (.iload 8, 2) := by decide +kernel
theorem dX6_heapUp_89 : decode cX6_heapUp 89 = .ok (.goto 6, 3) := by decide +kernel
theorem dX6_heapUp_92 : decode cX6_heapUp 92 = .ok (.iload 8, 2) := by decide +kernel
theorem dX6_heapUp_94 : decode cX6_heapUp 94 = .ok (.ineg, 1) := by decide +kernel
theorem dX6_heapUp_95 : decode cX6_heapUp 95 = .ok (.iadd, 1) := by decide +kernel
theorem dX6_heapUp_96 : decode cX6_heapUp 96 = .ok (.invokevirtual 41, 3) := by decide +kernel
theorem dX6_heapUp_99 : decode cX6_heapUp 99 = .ok (.iinc 5 1, 3) := by decide +kernel
theorem dX6_heapUp_102 : decode cX6_heapUp 102 = .ok (.goto (-83), 3) := by decide +kernel
theorem dX6_heapUp_105 : decode cX6_heapUp 105 = .ok (.aload_n 0, 1) := by decide +kernel
theorem dX6_heapUp_106 : decode cX6_heapUp 106 = .ok (.invokevirtual 45, 3) := by decide +kernel
theorem dX6_heapUp_109 : decode cX6_heapUp 109 = .ok (.ireturn, 1) := by decide +kernel
theorem dX6_smoothOut_0 : decode cX6_smoothOut 0 = .ok (.aload_n 0, 1) := by decide +kernel
theorem dX6_smoothOut_1 : decode cX6_smoothOut 1 = .ok (.invokevirtual 34, 3) := by decide +kernel
theorem dX6_smoothOut_4 : decode cX6_smoothOut 4 = .ok (.iconst 0, 1) := by decide +kernel
theorem dX6_smoothOut_5 : decode cX6_smoothOut 5 = .ok (.istore_n 1, 1) := by decide +kernel
theorem dX6_smoothOut_6 : decode cX6_smoothOut 6 = .ok (.iload_n 1, 1) := by decide +kernel
theorem dX6_smoothOut_7 : decode cX6_smoothOut 7 = .ok (.bipush 49, 2) := by decide +kernel
theorem dX6_smoothOut_9 : decode cX6_smoothOut 9 = .ok (.if_icmp .ge 19, 3) := by decide +kernel
theorem dX6_smoothOut_12 : decode cX6_smoothOut 12 = .ok (.aload_n 0, 1) := by decide +kernel
theorem dX6_smoothOut_13 : decode cX6_smoothOut 13 = .ok (.iload_n 1, 1) := by decide +kernel
theorem dX6_smoothOut_14 : decode cX6_smoothOut 14 = .ok (.aload_n 0, 1) := by decide +kernel
theorem dX6_smoothOut_15 : decode cX6_smoothOut 15 = .ok (.iload_n 1, 1) := by decide +kernel
theorem dX6_smoothOut_16 : decode cX6_smoothOut 16 = .ok (.invokevirtual 49, 3) := by decide +kernel
theorem dX6_smoothOut_19 : decode cX6_smoothOut 19 = .ok (.invokevirtual 41, 3) := by decide +kernel
theorem dX6_smoothOut_22 : decode cX6_smoothOut 22 = .ok (.iinc 1 1, 3) := by decide +kernel
theorem dX6_smoothOut_25 : decode cX6_smoothOut 25 = .ok (.goto (-19), 3) := by decide +kernel
theorem dX6_smoothOut_28 : decode cX6_smoothOut 28 = .ok (.aload_n 0, 1) := by decide +kernel
theorem dX6_smoothOut_29 : decode cX6_smoothOut 29 = .ok (.invokevirtual 45, 3) := by decide +kernel
theorem dX6_smoothOut_32 : decode cX6_smoothOut 32 = .ok (.ireturn, 1) := by decide +kernel
theorem dX6_oldMean_0 : decode cX6_oldMean 0 = .ok (.iconst 0, 1) := by decide +kernel
theorem dX6_oldMean_1 : decode cX6_oldMean 1 = .ok (.istore_n 2, 1) := by decide +kernel
theorem dX6_oldMean_2 : decode cX6_oldMean 2 = .ok (.iconst 0, 1) := by decide +kernel
theorem dX6_oldMean_3 : decode cX6_oldMean 3 = .ok (.istore_n 3, 1) := by decide +kernel
theorem dX6_oldMean_4 : decode cX6_oldMean 4 = .ok (.iload_n 1, 1) := by decide +kernel
theorem dX6_oldMean_5 : decode cX6_oldMean 5 = .ok (.invokestatic 21, 3) := by decide +kernel
theorem dX6_oldMean_8 : decode cX6_oldMean 8 = .ok (.ifCond .eq 12, 3) := by decide +kernel
theorem dX6_oldMean_11 : decode cX6_oldMean 11 = .ok (.aload_n 0, 1) := by decide +kernel
theorem dX6_oldMean_12 : decode cX6_oldMean 12 = .ok (.getfield 15, 3) := by decide +kernel
theorem dX6_oldMean_15 : decode cX6_oldMean 15 = .ok (.iload_n 1, 1) := by decide +kernel
theorem dX6_oldMean_16 : decode cX6_oldMean 16 = .ok (.iaload, 1) := by decide +kernel
theorem dX6_oldMean_17 : decode cX6_oldMean 17 = .ok (.istore_n 2, 1) := by decide +kernel
theorem dX6_oldMean_18 : decode cX6_oldMean 18 = .ok (.iconst 1, 1) := by decide +kernel
theorem dX6_oldMean_19 : decode cX6_oldMean 19 = .ok (.istore_n 3, 1) := by decide +kernel
theorem dX6_oldMean_20 : decode cX6_oldMean 20 = .ok (.iconst 0, 1) := by decide +kernel
theorem dX6_oldMean_21 : decode cX6_oldMean 21 = .ok (.istore 4, 2) := by decide +kernel
theorem dX6_oldMean_23 : decode cX6_oldMean 23 = .ok (.iload 4, 2) := by decide +kernel
theorem dX6_oldMean_25 : decode cX6_oldMean 25 = .ok (.iconst 4, 1) := by decide +kernel
theorem dX6_oldMean_26 : decode cX6_oldMean 26 = .ok (.if_icmp .ge 38, 3) := by decide +kernel
theorem dX6_oldMean_29 : decode cX6_oldMean 29 = .ok (.iload_n 1, 1) := by decide +kernel
theorem dX6_oldMean_30 : decode cX6_oldMean 30 = .ok (.iload 4, 2) := by decide +kernel
theorem dX6_oldMean_32 : decode cX6_oldMean 32 = .ok (.invokestatic 52, 3) := by decide +kernel
theorem dX6_oldMean_35 : decode cX6_oldMean 35 = .ok (.istore 5, 2) := by decide +kernel
theorem dX6_oldMean_37 : decode cX6_oldMean 37 = .ok (.iload 5, 2) := by decide +kernel
theorem dX6_oldMean_39 : decode cX6_oldMean 39 = .ok (.invokestatic 21, 3) := by decide +kernel
theorem dX6_oldMean_42 : decode cX6_oldMean 42 = .ok (.ifCond .eq 16, 3) := by decide +kernel
theorem dX6_oldMean_45 : decode cX6_oldMean 45 = .ok (.iload_n 2, 1) := by decide +kernel
theorem dX6_oldMean_46 : decode cX6_oldMean 46 = .ok (.aload_n 0, 1) := by decide +kernel
theorem dX6_oldMean_47 : decode cX6_oldMean 47 = .ok (.getfield 15, 3) := by decide +kernel
theorem dX6_oldMean_50 : decode cX6_oldMean 50 = .ok (.iload 5, 2) := by decide +kernel
theorem dX6_oldMean_52 : decode cX6_oldMean 52 = .ok (.iaload, 1) := by decide +kernel
theorem dX6_oldMean_53 : decode cX6_oldMean 53 = .ok (.iadd, 1) := by decide +kernel
theorem dX6_oldMean_54 : decode cX6_oldMean 54 = .ok (.istore_n 2, 1) := by decide +kernel
theorem dX6_oldMean_55 : decode cX6_oldMean 55 = .ok (.iinc 3 1, 3) := by decide +kernel
theorem dX6_oldMean_58 : decode cX6_oldMean 58 = .ok (.iinc 4 1, 3) := by decide +kernel
theorem dX6_oldMean_61 : decode cX6_oldMean 61 = .ok (.goto (-38), 3) := by decide +kernel
theorem dX6_oldMean_64 : decode cX6_oldMean 64 = .ok (.iload_n 3, 1) := by decide +kernel
theorem dX6_oldMean_65 : decode cX6_oldMean 65 = .ok (.ifCond .ne 7, 3) := by decide +kernel
theorem dX6_oldMean_68 : decode cX6_oldMean 68 = .ok (.iconst 0, 1) := by decide +kernel
theorem dX6_oldMean_69 : decode cX6_oldMean 69 = .ok (.goto 6, 3) := by decide +kernel
theorem dX6_oldMean_72 : decode cX6_oldMean 72 = .ok (.iload_n 2, 1) := by decide +kernel
theorem dX6_oldMean_73 : decode cX6_oldMean 73 = .ok (.iload_n 3, 1) := by decide +kernel
theorem dX6_oldMean_74 : decode cX6_oldMean 74 = .ok (.idiv, 1) := by decide +kernel
theorem dX6_oldMean_75 : decode cX6_oldMean 75 = .ok (.ireturn, 1) := by decide +kernel
theorem dX6_washDown_0 : decode cX6_washDown 0 = .ok (.aload_n 0, 1) := by decide +kernel
theorem dX6_washDown_1 : decode cX6_washDown 1 = .ok (.getfield 18, 3) := by decide +kernel
theorem dX6_washDown_4 : decode cX6_washDown 4 = .ok (.iconst 0, 1) := by decide +kernel
theorem dX6_washDown_5 : decode cX6_washDown 5 = .ok (.invokestatic 55, 3) := by decide +kernel
theorem dX6_washDown_8 : decode cX6_washDown 8 = .ok (.iconst 0, 1) := by decide +kernel
theorem dX6_washDown_9 : decode cX6_washDown 9 = .ok (.istore_n 2, 1) := by decide +kernel
theorem dX6_washDown_10 : decode cX6_washDown 10 = .ok (.iconst 0, 1) := by decide +kernel
theorem dX6_washDown_11 : decode cX6_washDown 11 = .ok (.istore_n 3, 1) := by decide +kernel
theorem dX6_washDown_12 : decode cX6_washDown 12 = .ok (.iload_n 3, 1) := by decide +kernel
theorem dX6_washDown_13 : decode cX6_washDown 13 = .ok (.bipush 49, 2) := by decide +kernel
theorem dX6_washDown_15 : decode cX6_washDown 15 = .ok (.if_icmp .ge 66, 3) := by decide +kernel
theorem dX6_washDown_18 : decode cX6_washDown 18 = .ok (.aload_n 1, 1) := by decide +kernel
theorem dX6_washDown_19 : decode cX6_washDown 19 = .ok (.iload_n 3, 1) := by decide +kernel
theorem dX6_washDown_20 : decode cX6_washDown 20 = .ok (.invokevirtual 61, 3) := by decide +kernel
theorem dX6_washDown_23 : decode cX6_washDown 23 = .ok (.istore 4, 2) := by decide +kernel
theorem dX6_washDown_25 : decode cX6_washDown 25 = .ok (.iload 4, 2) := by decide +kernel
theorem dX6_washDown_27 : decode cX6_washDown 27 = .ok (.invokestatic 21, 3) := by decide +kernel
theorem dX6_washDown_30 : decode cX6_washDown 30 = .ok (.ifCond .eq 45, 3) := by decide +kernel
theorem dX6_washDown_33 : decode cX6_washDown 33 = .ok (.aload_n 0, 1) := by decide +kernel
theorem dX6_washDown_34 : decode cX6_washDown 34 = .ok (.getfield 9, 3) := by decide +kernel
theorem dX6_washDown_37 : decode cX6_washDown 37 = .ok (.iload_n 3, 1) := by decide +kernel
theorem dX6_washDown_38 : decode cX6_washDown 38 = .ok (.iaload, 1) := by decide +kernel
theorem dX6_washDown_39 : decode cX6_washDown 39 = .ok (.aload_n 0, 1) := by decide +kernel
theorem dX6_washDown_40 : decode cX6_washDown 40 = .ok (.getfield 9, 3) := by decide +kernel
theorem dX6_washDown_43 : decode cX6_washDown 43 = .ok (.iload 4, 2) := by decide +kernel
theorem dX6_washDown_45 : decode cX6_washDown 45 = .ok (.iaload, 1) := by decide +kernel
theorem dX6_washDown_46 : decode cX6_washDown 46 = .ok (.isub, 1) := by decide +kernel
theorem dX6_washDown_47 : decode cX6_washDown 47 = .ok (.iconst 2, 1) := by decide +kernel
theorem dX6_washDown_48 : decode cX6_washDown 48 = .ok (.if_icmp .lt 27, 3) := by decide +kernel
theorem dX6_washDown_51 : decode cX6_washDown 51 = .ok (.aload_n 0, 1) := by decide +kernel
theorem dX6_washDown_52 : decode cX6_washDown 52 = .ok (.getfield 18, 3) := by decide +kernel
theorem dX6_washDown_55 : decode cX6_washDown 55 = .ok (.iload_n 3, 1) := by decide +kernel
theorem dX6_washDown_56 : decode cX6_washDown 56 = .ok (.dup2, 1) := by decide +kernel
theorem dX6_washDown_57 : decode cX6_washDown 57 = .ok (.iaload, 1) := by decide +kernel
theorem dX6_washDown_58 : decode cX6_washDown 58 = .ok (.iconst 1, 1) := by decide +kernel
theorem dX6_washDown_59 : decode cX6_washDown 59 = .ok (.isub, 1) := by decide +kernel
theorem dX6_washDown_60 : decode cX6_washDown 60 = .ok (.iastore, 1) := by decide +kernel
theorem dX6_washDown_61 : decode cX6_washDown 61 = .ok (.aload_n 0, 1) := by decide +kernel
theorem dX6_washDown_62 : decode cX6_washDown 62 = .ok (.getfield 18, 3) := by decide +kernel
theorem dX6_washDown_65 : decode cX6_washDown 65 = .ok (.iload 4, 2) := by decide +kernel
theorem dX6_washDown_67 : decode cX6_washDown 67 = .ok (.dup2, 1) := by decide +kernel
theorem dX6_washDown_68 : decode cX6_washDown 68 = .ok (.iaload, 1) := by decide +kernel
theorem dX6_washDown_69 : decode cX6_washDown 69 = .ok (.iconst 1, 1) := by decide +kernel
theorem dX6_washDown_70 : decode cX6_washDown 70 = .ok (.iadd, 1) := by decide +kernel
theorem dX6_washDown_71 : decode cX6_washDown 71 = .ok (.iastore, 1) := by decide +kernel
theorem dX6_washDown_72 : decode cX6_washDown 72 = .ok (.iinc 2 1, 3) := by decide +kernel
theorem dX6_washDown_75 : decode cX6_washDown 75 = .ok (.iinc 3 1, 3) := by decide +kernel
theorem dX6_washDown_78 : decode cX6_washDown 78 = .ok (.goto (-66), 3) := by decide +kernel
theorem dX6_washDown_81 : decode cX6_washDown 81 = .ok (.iconst 0, 1) := by decide +kernel
theorem dX6_washDown_82 : decode cX6_washDown 82 = .ok (.istore_n 3, 1) := by decide +kernel
theorem dX6_washDown_83 : decode cX6_washDown 83 = .ok (.iload_n 3, 1) := by decide +kernel
theorem dX6_washDown_84 : decode cX6_washDown 84 = .ok (.bipush 49, 2) := by decide +kernel
theorem dX6_washDown_86 : decode cX6_washDown 86 = .ok (.if_icmp .ge 27, 3) := by decide +kernel
theorem dX6_washDown_89 : decode cX6_washDown 89 = .ok (.aload_n 0, 1) := by decide +kernel
theorem dX6_washDown_90 : decode cX6_washDown 90 = .ok (.iload_n 3, 1) := by decide +kernel
theorem dX6_washDown_91 : decode cX6_washDown 91 = .ok (.aload_n 0, 1) := by decide +kernel
theorem dX6_washDown_92 : decode cX6_washDown 92 = .ok (.getfield 9, 3) := by decide +kernel
theorem dX6_washDown_95 : decode cX6_washDown 95 = .ok (.iload_n 3, 1) := by decide +kernel
theorem dX6_washDown_96 : decode cX6_washDown 96 = .ok (.iaload, 1) := by decide +kernel
theorem dX6_washDown_97 : decode cX6_washDown 97 = .ok (.aload_n 0, 1) := by decide +kernel
theorem dX6_washDown_98 : decode cX6_washDown 98 = .ok (.getfield 18, 3) := by decide +kernel
theorem dX6_washDown_101 : decode cX6_washDown 101 = .ok (.iload_n 3, 1) := by decide +kernel
theorem dX6_washDown_102 : decode cX6_washDown 102 = .ok (.iaload, 1) := by decide +kernel
theorem dX6_washDown_103 : decode cX6_washDown 103 = .ok (.iadd, 1) := by decide +kernel
theorem dX6_washDown_104 : decode cX6_washDown 104 = .ok (.invokevirtual 41, 3) := by decide +kernel
theorem dX6_washDown_107 : decode cX6_washDown 107 = .ok (.iinc 3 1, 3) := by decide +kernel
theorem dX6_washDown_110 : decode cX6_washDown 110 = .ok (.goto (-27), 3) := by decide +kernel
theorem dX6_washDown_113 : decode cX6_washDown 113 = .ok (.iload_n 2, 1) := by decide +kernel
theorem dX6_washDown_114 : decode cX6_washDown 114 = .ok (.ireturn, 1) := by decide +kernel
theorem dX6_turnRight_0 : decode cX6_turnRight 0 = .ok (.aload_n 0, 1) := by decide +kernel
theorem dX6_turnRight_1 : decode cX6_turnRight 1 = .ok (.invokevirtual 34, 3) := by decide +kernel
theorem dX6_turnRight_4 : decode cX6_turnRight 4 = .ok (.iconst 0, 1) := by decide +kernel
theorem dX6_turnRight_5 : decode cX6_turnRight 5 = .ok (.istore_n 1, 1) := by decide +kernel
theorem dX6_turnRight_6 : decode cX6_turnRight 6 = .ok (.iload_n 1, 1) := by decide +kernel
theorem dX6_turnRight_7 : decode cX6_turnRight 7 = .ok (.bipush 49, 2) := by decide +kernel
theorem dX6_turnRight_9 : decode cX6_turnRight 9 = .ok (.if_icmp .ge 42, 3) := by decide +kernel
theorem dX6_turnRight_12 : decode cX6_turnRight 12 = .ok (.bipush 6, 2) := by decide +kernel
theorem dX6_turnRight_14 : decode cX6_turnRight 14 = .ok (.iload_n 1, 1) := by decide +kernel
theorem dX6_turnRight_15 : decode cX6_turnRight 15 = .ok (.bipush 7, 2) := by decide +kernel
theorem dX6_turnRight_17 : decode cX6_turnRight 17 = .ok (.irem, 1) := by decide +kernel
theorem dX6_turnRight_18 : decode cX6_turnRight 18 = .ok (.isub, 1) := by decide +kernel
theorem dX6_turnRight_19 : decode cX6_turnRight 19 = .ok (.iload_n 1, 1) := by decide +kernel
theorem dX6_turnRight_20 : decode cX6_turnRight 20 = .ok (.bipush 7, 2) := by decide +kernel
theorem dX6_turnRight_22 : decode cX6_turnRight 22 = .ok (.idiv, 1) := by decide +kernel
theorem dX6_turnRight_23 : decode cX6_turnRight 23 = .ok (.invokestatic 66, 3) := by decide +kernel
theorem dX6_turnRight_26 : decode cX6_turnRight 26 = .ok (.istore_n 2, 1) := by decide +kernel
theorem dX6_turnRight_27 : decode cX6_turnRight 27 = .ok (.iload_n 2, 1) := by decide +kernel
theorem dX6_turnRight_28 : decode cX6_turnRight 28 = .ok (.invokestatic 21, 3) := by decide +kernel
theorem dX6_turnRight_31 : decode cX6_turnRight 31 = .ok (.ifCond .eq 14, 3) := by decide +kernel
theorem dX6_turnRight_34 : decode cX6_turnRight 34 = .ok (.aload_n 0, 1) := by decide +kernel
theorem dX6_turnRight_35 : decode cX6_turnRight 35 = .ok (.iload_n 1, 1) := by decide +kernel
theorem dX6_turnRight_36 : decode cX6_turnRight 36 = .ok (.aload_n 0, 1) := by decide +kernel
theorem dX6_turnRight_37 : decode cX6_turnRight 37 = .ok (.getfield 15, 3) := by decide +kernel
theorem dX6_turnRight_40 : decode cX6_turnRight 40 = .ok (.iload_n 2, 1) := by decide +kernel
theorem dX6_turnRight_41 : decode cX6_turnRight 41 = .ok (.iaload, 1) := by decide +kernel
theorem dX6_turnRight_42 : decode cX6_turnRight 42 = .ok (.invokevirtual 41, 3) := by decide +kernel
theorem dX6_turnRight_45 : decode cX6_turnRight 45 = .ok (.iinc 1 1, 3) := by decide +kernel
theorem dX6_turnRight_48 : decode cX6_turnRight 48 = .ok (.goto (-42), 3) := by decide +kernel
theorem dX6_turnRight_51 : decode cX6_turnRight 51 = .ok (.aload_n 0, 1) := by decide +kernel
theorem dX6_turnRight_52 : decode cX6_turnRight 52 = .ok (.invokevirtual 45, 3) := by decide +kernel
theorem dX6_turnRight_55 : decode cX6_turnRight 55 = .ok (.ireturn, 1) := by decide +kernel
theorem dX6_writeTo_0 : decode cX6_writeTo 0 = .ok (.iload_n 2, 1) := by decide +kernel
theorem dX6_writeTo_1 : decode cX6_writeTo 1 = .ok (.bipush 49, 2) := by decide +kernel
theorem dX6_writeTo_3 : decode cX6_writeTo 3 = .ok (.imul, 1) := by decide +kernel
theorem dX6_writeTo_4 : decode cX6_writeTo 4 = .ok (.istore_n 3, 1) := by decide +kernel
theorem dX6_writeTo_5 : decode cX6_writeTo 5 = .ok (.iload_n 2, 1) := by decide +kernel
theorem dX6_writeTo_6 : decode cX6_writeTo 6 = .ok (.ifCond .lt 28, 3) := by decide +kernel
theorem dX6_writeTo_9 : decode cX6_writeTo 9 = .ok (.iload_n 3, 1) := by decide +kernel
theorem dX6_writeTo_10 : decode cX6_writeTo 10 = .ok (.ifCond .lt 24, 3) := by decide +kernel
theorem dX6_writeTo_13 : decode cX6_writeTo 13 = .ok (.iload_n 3, 1) := by decide +kernel
theorem dX6_writeTo_14 : decode cX6_writeTo 14 = .ok (.aload_n 1, 1) := by decide +kernel
theorem dX6_writeTo_15 : decode cX6_writeTo 15 = .ok (.arraylength, 1) := by decide +kernel
theorem dX6_writeTo_16 : decode cX6_writeTo 16 = .ok (.bipush 49, 2) := by decide +kernel
theorem dX6_writeTo_18 : decode cX6_writeTo 18 = .ok (.isub, 1) := by decide +kernel
theorem dX6_writeTo_19 : decode cX6_writeTo 19 = .ok (.if_icmp .gt 15, 3) := by decide +kernel
theorem dX6_writeTo_22 : decode cX6_writeTo 22 = .ok (.aload_n 0, 1) := by decide +kernel
theorem dX6_writeTo_23 : decode cX6_writeTo 23 = .ok (.getfield 9, 3) := by decide +kernel
theorem dX6_writeTo_26 : decode cX6_writeTo 26 = .ok (.iconst 0, 1) := by decide +kernel
theorem dX6_writeTo_27 : decode cX6_writeTo 27 = .ok (.aload_n 1, 1) := by decide +kernel
theorem dX6_writeTo_28 : decode cX6_writeTo 28 = .ok (.iload_n 3, 1) := by decide +kernel
theorem dX6_writeTo_29 : decode cX6_writeTo 29 = .ok (.bipush 49, 2) := by decide +kernel
theorem dX6_writeTo_31 : decode cX6_writeTo 31 = .ok (.invokestatic 69, 3) := by decide +kernel
theorem dX6_writeTo_34 : decode cX6_writeTo 34 = .ok (.return_, 1) := by decide +kernel
theorem dX6_remember_0 : decode cX6_remember 0 = .ok (.aload_n 0, 1) := by decide +kernel
theorem dX6_remember_1 : decode cX6_remember 1 = .ok (.getfield 9, 3) := by decide +kernel
theorem dX6_remember_4 : decode cX6_remember 4 = .ok (.iconst 0, 1) := by decide +kernel
theorem dX6_remember_5 : decode cX6_remember 5 = .ok (.aload_n 0, 1) := by decide +kernel
theorem dX6_remember_6 : decode cX6_remember 6 = .ok (.getfield 15, 3) := by decide +kernel
theorem dX6_remember_9 : decode cX6_remember 9 = .ok (.iconst 0, 1) := by decide +kernel
theorem dX6_remember_10 : decode cX6_remember 10 = .ok (.bipush 49, 2) := by decide +kernel
theorem dX6_remember_12 : decode cX6_remember 12 = .ok (.invokestatic 69, 3) := by decide +kernel
theorem dX6_remember_15 : decode cX6_remember 15 = .ok (.return_, 1) := by decide +kernel
theorem dX6_countChanged_0 : decode cX6_countChanged 0 = .ok (.iconst 0, 1) := by decide +kernel
theorem dX6_countChanged_1 : decode cX6_countChanged 1 = .ok (.istore_n 1, 1) := by decide +kernel
theorem dX6_countChanged_2 : decode cX6_countChanged 2 = .ok (.iconst 0, 1) := by decide +kernel
theorem dX6_countChanged_3 : decode cX6_countChanged 3 = .ok (.istore_n 2, 1) := by decide +kernel
theorem dX6_countChanged_4 : decode cX6_countChanged 4 = .ok (.iload_n 2, 1) := by decide +kernel
theorem dX6_countChanged_5 : decode cX6_countChanged 5 = .ok (.bipush 49, 2) := by decide +kernel
theorem dX6_countChanged_7 : decode cX6_countChanged 7 = .ok (.if_icmp .ge 27, 3) := by decide +kernel
theorem dX6_countChanged_10 : decode cX6_countChanged 10 = .ok (.aload_n 0, 1) := by decide +kernel
theorem dX6_countChanged_11 : decode cX6_countChanged 11 = .ok (.getfield 9, 3) := by decide +kernel
theorem dX6_countChanged_14 : decode cX6_countChanged 14 = .ok (.iload_n 2, 1) := by decide +kernel
theorem dX6_countChanged_15 : decode cX6_countChanged 15 = .ok (.iaload, 1) := by decide +kernel
theorem dX6_countChanged_16 : decode cX6_countChanged 16 = .ok (.aload_n 0, 1) := by decide +kernel
theorem dX6_countChanged_17 : decode cX6_countChanged 17 = .ok (.getfield 15, 3) := by decide +kernel
theorem dX6_countChanged_20 : decode cX6_countChanged 20 = .ok (.iload_n 2, 1) := by decide +kernel
theorem dX6_countChanged_21 : decode cX6_countChanged 21 = .ok (.iaload, 1) := by decide +kernel
theorem dX6_countChanged_22 : decode cX6_countChanged 22 = .ok (.if_icmp .eq 6, 3) := by decide +kernel
theorem dX6_countChanged_25 : decode cX6_countChanged 25 = .ok (.iinc 1 1, 3) := by decide +kernel
theorem dX6_countChanged_28 : decode cX6_countChanged 28 = .ok (.iinc 2 1, 3) := by decide +kernel
theorem dX6_countChanged_31 : decode cX6_countChanged 31 = .ok (.goto (-27), 3) := by decide +kernel
theorem dX6_countChanged_34 : decode cX6_countChanged 34 = .ok (.iload_n 1, 1) := by decide +kernel
theorem dX6_countChanged_35 : decode cX6_countChanged 35 = .ok (.ireturn, 1) := by decide +kernel
theorem dX7_init_0 : decode cX7_init 0 = .ok (.aload_n 0, 1) := by decide +kernel
theorem dX7_init_1 : decode cX7_init 1 = .ok (.invokespecial 3, 3) := by decide +kernel
theorem dX7_init_4 : decode cX7_init 4 = .ok (.aload_n 0, 1) := by decide +kernel
theorem dX7_init_5 : decode cX7_init 5 = .ok (.bipush 49, 2) := by decide +kernel
theorem dX7_init_7 : decode cX7_init 7 = .ok (.newarray .int, 2) := by decide +kernel
theorem dX7_init_9 : decode cX7_init 9 = .ok (.putfield 9, 3) := by decide +kernel
theorem dX7_init_12 : decode cX7_init 12 = .ok (.return_, 1) := by decide +kernel
theorem dX7_countFrom_0 : decode cX7_countFrom 0 = .ok (.iconst 0, 1) := by decide +kernel
theorem dX7_countFrom_1 : decode cX7_countFrom 1 = .ok (.istore 4, 2) := by decide +kernel
theorem dX7_countFrom_3 : decode cX7_countFrom 3 = .ok (.iconst 0, 1) := by decide +kernel
theorem dX7_countFrom_4 : decode cX7_countFrom 4 = .ok (.istore 5, 2) := by decide +kernel
theorem dX7_countFrom_6 : decode cX7_countFrom 6 = .ok (.iload 5, 2) := by decide +kernel
theorem dX7_countFrom_8 : decode cX7_countFrom 8 = .ok (.bipush 49, 2) := by decide +kernel
theorem dX7_countFrom_10 : decode cX7_countFrom 10 = .ok (.if_icmp .ge 33, 3) := by decide +kernel
theorem dX7_countFrom_13 : decode cX7_countFrom 13 = .ok (.iload 5, 2) := by decide +kernel
theorem dX7_countFrom_15 : decode cX7_countFrom 15 = .ok (.iload_n 3, 1) := by decide +kernel
theorem dX7_countFrom_16 : decode cX7_countFrom 16 = .ok (.if_icmp .eq 21, 3) := by decide +kernel
theorem dX7_countFrom_19 : decode cX7_countFrom 19 = .ok (.aload_n 2, 1) := by decide +kernel
theorem dX7_countFrom_20 : decode cX7_countFrom 20 = .ok (.aload_n 1, 1) := by decide +kernel
theorem dX7_countFrom_21 : decode cX7_countFrom 21 = .ok (.iload_n 3, 1) := by decide +kernel
theorem dX7_countFrom_22 : decode cX7_countFrom 22 = .ok (.iload 5, 2) := by decide +kernel
theorem dX7_countFrom_24 : decode cX7_countFrom 24 = .ok (.invokevirtual 19, 3) := by decide +kernel
theorem dX7_countFrom_27 : decode cX7_countFrom 27 = .ok (.aload_n 2, 1) := by decide +kernel
theorem dX7_countFrom_28 : decode cX7_countFrom 28 = .ok (.invokevirtual 25, 3) := by decide +kernel
theorem dX7_countFrom_31 : decode cX7_countFrom 31 = .ok (.ifCond .eq 6, 3) := by decide +kernel
theorem dX7_countFrom_34 : decode cX7_countFrom 34 = .ok (.iinc 4 1, 3) := by decide +kernel
theorem dX7_countFrom_37 : decode cX7_countFrom 37 = .ok (.iinc 5 1, 3) := by decide +kernel
theorem dX7_countFrom_40 : decode cX7_countFrom 40 = .ok (.goto (-34), 3) := by decide +kernel
theorem dX7_countFrom_43 : decode cX7_countFrom 43 = .ok (.iload 4, 2) := by decide +kernel
theorem dX7_countFrom_45 : decode cX7_countFrom 45 = .ok (.ireturn, 1) := by decide +kernel
theorem dX8_init_0 : decode cX8_init 0 = .ok (.aload_n 0, 1) := by decide +kernel
theorem dX8_init_1 : decode cX8_init 1 = .ok (.invokespecial 3, 3) := by decide +kernel
theorem dX8_init_4 : decode cX8_init 4 = .ok (.aload_n 0, 1) := by decide +kernel
theorem dX8_init_5 : decode cX8_init 5 = .ok (.bipush 49, 2) := by decide +kernel
theorem dX8_init_7 : decode cX8_init 7 = .ok (.newarray .int, 2) := by decide +kernel
theorem dX8_init_9 : decode cX8_init 9 = .ok (.putfield 9, 3) := by decide +kernel
theorem dX8_init_12 : decode cX8_init 12 = .ok (.aload_n 0, 1) := by decide +kernel
theorem dX8_init_13 : decode cX8_init 13 = .ok (.bipush 49, 2) := by decide +kernel
theorem dX8_init_15 : decode cX8_init 15 = .ok (.newarray .int, 2) := by decide +kernel
theorem dX8_init_17 : decode cX8_init 17 = .ok (.putfield 15, 3) := by decide +kernel
theorem dX8_init_20 : decode cX8_init 20 = .ok (.aload_n 0, 1) := by decide +kernel
theorem dX8_init_21 : decode cX8_init 21 = .ok (.bipush 49, 2) := by decide +kernel
theorem dX8_init_23 : decode cX8_init 23 = .ok (.newarray .int, 2) := by decide +kernel
theorem dX8_init_25 : decode cX8_init 25 = .ok (.putfield 18, 3) := by decide +kernel
theorem dX8_init_28 : decode cX8_init 28 = .ok (.return_, 1) := by decide +kernel
theorem dX8_read_0 : decode cX8_read 0 = .ok (.iconst 0, 1) := by decide +kernel
theorem dX8_read_1 : decode cX8_read 1 = .ok (.istore_n 2, 1) := by decide +kernel
theorem dX8_read_2 : decode cX8_read 2 = .ok (.iload_n 2, 1) := by decide +kernel
theorem dX8_read_3 : decode cX8_read 3 = .ok (.bipush 49, 2) := by decide +kernel
theorem dX8_read_5 : decode cX8_read 5 = .ok (.if_icmp .ge 90, 3) := by decide +kernel
theorem dX8_read_8 : decode cX8_read 8 = .ok (.iload_n 2, 1) := by decide +kernel
theorem dX8_read_9 : decode cX8_read 9 = .ok (.istore_n 3, 1) := by decide +kernel
theorem dX8_read_10 : decode cX8_read 10 = .ok (.iconst 0, 1) := by decide +kernel
theorem dX8_read_11 : decode cX8_read 11 = .ok (.istore 4, 2) := by decide +kernel
theorem dX8_read_13 : decode cX8_read 13 = .ok (.iload 4, 2) := by decide +kernel
theorem dX8_read_15 : decode cX8_read 15 = .ok (.iconst 4, 1) := by decide +kernel
theorem dX8_read_16 : decode cX8_read 16 = .ok (.if_icmp .ge 40, 3) := by decide +kernel
theorem dX8_read_19 : decode cX8_read 19 = .ok (.iload_n 2, 1) := by decide +kernel
theorem dX8_read_20 : decode cX8_read 20 = .ok (.iload 4, 2) := by decide +kernel
theorem dX8_read_22 : decode cX8_read 22 = .ok (.invokestatic 21, 3) := by decide +kernel
theorem dX8_read_25 : decode cX8_read 25 = .ok (.istore 5, 2) := by decide +kernel
theorem dX8_read_27 : decode cX8_read 27 = .ok (.iload 5, 2) := by decide +kernel
theorem dX8_read_29 : decode cX8_read 29 = .ok (.iconst (-1), 1) := by decide +kernel
theorem dX8_read_30 : decode cX8_read 30 = .ok (.if_icmp .eq 20, 3) := by decide +kernel
theorem dX8_read_33 : decode cX8_read 33 = .ok (.aload_n 1, 1) := by decide +kernel
theorem dX8_read_34 : decode cX8_read 34 = .ok (.iload 5, 2) := by decide +kernel
theorem dX8_read_36 : decode cX8_read 36 = .ok (.invokevirtual 25, 3) := by decide +kernel
theorem dX8_read_39 : decode cX8_read 39 = .ok (.aload_n 1, 1) := by decide +kernel
theorem dX8_read_40 : decode cX8_read 40 = .ok (.iload_n 3, 1) := by decide +kernel
theorem dX8_read_41 : decode cX8_read 41 = .ok (.invokevirtual 25, 3) := by decide +kernel
theorem dX8_read_44 : decode cX8_read 44 = .ok (.if_icmp .ge 6, 3) := by decide +kernel
theorem dX8_read_47 : decode cX8_read 47 = .ok (.iload 5, 2) := by decide +kernel
theorem dX8_read_49 : decode cX8_read 49 = .ok (.istore_n 3, 1) := by decide +kernel
theorem dX8_read_50 : decode cX8_read 50 = .ok (.iinc 4 1, 3) := by decide +kernel
theorem dX8_read_53 : decode cX8_read 53 = .ok (.goto (-40), 3) := by decide +kernel
theorem dX8_read_56 : decode cX8_read 56 = .ok (.aload_n 0, 1) := by decide +kernel
theorem dX8_read_57 : decode cX8_read 57 = .ok (.getfield 9, 3) := by decide +kernel
theorem dX8_read_60 : decode cX8_read 60 = .ok (.iload_n 2, 1) := by decide +kernel
theorem dX8_read_61 : decode cX8_read 61 = .ok (.iload_n 3, 1) := by decide +kernel
theorem dX8_read_62 : decode cX8_read 62 = .ok (.iload_n 2, 1) := by decide +kernel
theorem dX8_read_63 : decode cX8_read 63 = .ok (.if_icmp .ne 7, 3) := by decide +kernel
theorem dX8_read_66 : decode cX8_read 66 = .ok (.iconst (-1), 1) := by decide +kernel
theorem dX8_read_67 : decode cX8_read 67 = .ok (.goto 4, 3) := by decide +kernel
theorem dX8_read_70 : decode cX8_read 70 = .ok (.iload_n 3, 1) := by decide +kernel
theorem dX8_read_71 : decode cX8_read 71 = .ok (.iastore, 1) := by decide +kernel
theorem dX8_read_72 : decode cX8_read 72 = .ok (.aload_n 0, 1) := by decide +kernel
theorem dX8_read_73 : decode cX8_read 73 = .ok (.getfield 15, 3) := by decide +kernel
theorem dX8_read_76 : decode cX8_read 76 = .ok (.iload_n 2, 1) := by decide +kernel
theorem dX8_read_77 : decode cX8_read 77 = .ok (.aload_n 1, 1) := by decide +kernel
theorem dX8_read_78 : decode cX8_read 78 = .ok (.iload_n 2, 1) := by decide +kernel
theorem dX8_read_79 : decode cX8_read 79 = .ok (.invokevirtual 25, 3) := by decide +kernel
theorem dX8_read_82 : decode cX8_read 82 = .ok (.aload_n 1, 1) := by decide +kernel
theorem dX8_read_83 : decode cX8_read 83 = .ok (.iload_n 3, 1) := by decide +kernel
theorem dX8_read_84 : decode cX8_read 84 = .ok (.invokevirtual 25, 3) := by decide +kernel
theorem dX8_read_87 : decode cX8_read 87 = .ok (.isub, 1) := by decide +kernel
theorem dX8_read_88 : decode cX8_read 88 = .ok (.iastore, 1) := by decide +kernel
theorem dX8_read_89 : decode cX8_read 89 = .ok (.iinc 2 1, 3) := by decide +kernel
theorem dX8_read_92 : decode cX8_read 92 = .ok (.goto (-90), 3) := by decide +kernel
theorem dX8_read_95 : decode cX8_read 95 = .ok (.return_, 1) := by decide +kernel
theorem dX8_next_0 : decode cX8_next 0 = .ok (.iload_n 1, 1) := by decide +kernel
theorem dX8_next_1 : decode cX8_next 1 = .ok (.invokestatic 31, 3) := by decide +kernel
theorem dX8_next_4 : decode cX8_next 4 = .ok (.ifCond .eq 12, 3) := by decide +kernel
theorem dX8_next_7 : decode cX8_next 7 = .ok (.aload_n 0, 1) := by decide +kernel
theorem dX8_next_8 : decode cX8_next 8 = .ok (.getfield 9, 3) := by decide +kernel
theorem dX8_next_11 : decode cX8_next 11 = .ok (.iload_n 1, 1) := by decide +kernel
theorem dX8_next_12 : decode cX8_next 12 = .ok (.iaload, 1) := by decide +kernel
theorem dX8_next_13 : decode cX8_next 13 = .ok (.goto 4, 3) := by decide +kernel
theorem dX8_next_16 : decode cX8_next 16 = .ok (.iconst (-1), 1) := by decide +kernel
theorem dX8_next_17 : decode cX8_next 17 = .ok (.ireturn, 1) := by decide +kernel
theorem dX8_isLowest_0 : decode cX8_isLowest 0 = .ok (.aload_n 0, 1) := by decide +kernel
theorem dX8_isLowest_1 : decode cX8_isLowest 1 = .ok (.iload_n 1, 1) := by decide +kernel
theorem dX8_isLowest_2 : decode cX8_isLowest 2 = .ok (.invokevirtual 35, 3) := by decide +kernel
theorem dX8_isLowest_5 : decode cX8_isLowest 5 = .ok (.iconst (-1), 1) := by decide +kernel
theorem dX8_isLowest_6 : decode cX8_isLowest 6 = .ok (.if_icmp .ne 7, 3) := by decide +kernel
theorem dX8_isLowest_9 : decode cX8_isLowest 9 = .ok (.iconst 1, 1) := by decide +kernel
theorem dX8_isLowest_10 : decode cX8_isLowest 10 = .ok (.goto 4, 3) := by decide +kernel
theorem dX8_isLowest_13 : decode cX8_isLowest 13 = .ok (.iconst 0, 1) := by decide +kernel
theorem dX8_isLowest_14 : decode cX8_isLowest 14 = .ok (.ireturn, 1) := by decide +kernel
theorem dX8_drop_0 : decode cX8_drop 0 = .ok (.iload_n 1, 1) := by decide +kernel
theorem dX8_drop_1 : decode cX8_drop 1 = .ok (.invokestatic 31, 3) := by decide +kernel
theorem dX8_drop_4 : decode cX8_drop 4 = .ok (.ifCond .eq 12, 3) := by decide +kernel
theorem dX8_drop_7 : decode cX8_drop 7 = .ok (.aload_n 0, 1) := by decide +kernel
theorem dX8_drop_8 : decode cX8_drop 8 = .ok (.getfield 15, 3) := by decide +kernel
theorem dX8_drop_11 : decode cX8_drop 11 = .ok (.iload_n 1, 1) := by decide +kernel
theorem dX8_drop_12 : decode cX8_drop 12 = .ok (.iaload, 1) := by decide +kernel
theorem dX8_drop_13 : decode cX8_drop 13 = .ok (.goto 4, 3) := by decide +kernel
theorem dX8_drop_16 : decode cX8_drop 16 = .ok (.iconst 0, 1) := by decide +kernel
theorem dX8_drop_17 : decode cX8_drop 17 = .ok (.ireturn, 1) := by decide +kernel
theorem dX8_end_0 : decode cX8_end 0 = .ok (.iload_n 1, 1) := by decide +kernel
theorem dX8_end_1 : decode cX8_end 1 = .ok (.istore_n 2, 1) := by decide +kernel
theorem dX8_end_2 : decode cX8_end 2 = .ok (.iconst 0, 1) := by decide +kernel
theorem dX8_end_3 : decode cX8_end 3 = .ok (.istore_n 3, 1) := by decide +kernel
theorem dX8_end_4 : decode cX8_end 4 = .ok (.iload_n 3, 1) := by decide +kernel
theorem dX8_end_5 : decode cX8_end 5 = .ok (.bipush 49, 2) := by decide +kernel
theorem dX8_end_7 : decode cX8_end 7 = .ok (.if_icmp .ge 23, 3) := by decide +kernel
theorem dX8_end_10 : decode cX8_end 10 = .ok (.aload_n 0, 1) := by decide +kernel
theorem dX8_end_11 : decode cX8_end 11 = .ok (.iload_n 2, 1) := by decide +kernel
theorem dX8_end_12 : decode cX8_end 12 = .ok (.invokevirtual 38, 3) := by decide +kernel
theorem dX8_end_15 : decode cX8_end 15 = .ok (.ifCond .ne 15, 3) := by decide +kernel
theorem dX8_end_18 : decode cX8_end 18 = .ok (.aload_n 0, 1) := by decide +kernel
theorem dX8_end_19 : decode cX8_end 19 = .ok (.iload_n 2, 1) := by decide +kernel
theorem dX8_end_20 : decode cX8_end 20 = .ok (.invokevirtual 35, 3) := by decide +kernel
theorem dX8_end_23 : decode cX8_end 23 = .ok (.istore_n 2, 1) := by decide +kernel
theorem dX8_end_24 : decode cX8_end 24 = .ok (.iinc 3 1, 3) := by decide +kernel
theorem dX8_end_27 : decode cX8_end 27 = .ok (.goto (-23), 3) := by decide +kernel
theorem dX8_end_30 : decode cX8_end 30 = .ok (.iload_n 2, 1) := by decide +kernel
theorem dX8_end_31 : decode cX8_end 31 = .ok (.ireturn, 1) := by decide +kernel
theorem dX8_steps_0 : decode cX8_steps 0 = .ok (.iload_n 1, 1) := by decide +kernel
theorem dX8_steps_1 : decode cX8_steps 1 = .ok (.istore_n 2, 1) := by decide +kernel
theorem dX8_steps_2 : decode cX8_steps 2 = .ok (.iconst 0, 1) := by decide +kernel
theorem dX8_steps_3 : decode cX8_steps 3 = .ok (.istore_n 3, 1) := by decide +kernel
theorem dX8_steps_4 : decode cX8_steps 4 = .ok (.iconst 0, 1) := by decide +kernel
theorem dX8_steps_5 : decode cX8_steps 5 = .ok (.istore 4, 2) := by decide +kernel
theorem dX8_steps_7 : decode cX8_steps 7 = .ok (.iload 4, 2) := by decide +kernel
theorem dX8_steps_9 : decode cX8_steps 9 = .ok (.bipush 49, 2) := by decide +kernel
theorem dX8_steps_11 : decode cX8_steps 11 = .ok (.if_icmp .ge 26, 3) := by decide +kernel
theorem dX8_steps_14 : decode cX8_steps 14 = .ok (.aload_n 0, 1) := by decide +kernel
theorem dX8_steps_15 : decode cX8_steps 15 = .ok (.iload_n 2, 1) := by decide +kernel
theorem dX8_steps_16 : decode cX8_steps 16 = .ok (.invokevirtual 38, 3) := by decide +kernel
theorem dX8_steps_19 : decode cX8_steps 19 = .ok (.ifCond .ne 18, 3) := by decide +kernel
theorem dX8_steps_22 : decode cX8_steps 22 = .ok (.aload_n 0, 1) := by decide +kernel
theorem dX8_steps_23 : decode cX8_steps 23 = .ok (.iload_n 2, 1) := by decide +kernel
theorem dX8_steps_24 : decode cX8_steps 24 = .ok (.invokevirtual 35, 3) := by decide +kernel
theorem dX8_steps_27 : decode cX8_steps 27 = .ok (.istore_n 2, 1) := by decide +kernel
theorem dX8_steps_28 : decode cX8_steps 28 = .ok (.iinc 3 1, 3) := by decide +kernel
theorem dX8_steps_31 : decode cX8_steps 31 = .ok (.iinc 4 1, 3) := by decide +kernel
theorem dX8_steps_34 : decode cX8_steps 34 = .ok (.goto (-27), 3) := by decide +kernel
theorem dX8_steps_37 : decode cX8_steps 37 = .ok (.iload_n 3, 1) := by decide +kernel
theorem dX8_steps_38 : decode cX8_steps 38 = .ok (.ireturn, 1) := by decide +kernel
theorem dX8_countFollowing_0 : decode cX8_countFollowing 0 = .ok (.iconst 0, 1) := by decide +kernel
theorem dX8_countFollowing_1 : decode cX8_countFollowing 1 = .ok (.istore_n 2, 1) := by decide +kernel
theorem dX8_countFollowing_2 : decode cX8_countFollowing 2 = .ok (.iconst 0, 1) := by decide +kernel
theorem dX8_countFollowing_3 : decode cX8_countFollowing 3 = .ok (.istore_n 3, 1) := by decide +kernel
theorem dX8_countFollowing_4 : decode cX8_countFollowing 4 = .ok (.iload_n 3, 1) := by decide +kernel
theorem dX8_countFollowing_5 : decode cX8_countFollowing 5 = .ok (.bipush 49, 2) := by decide +kernel
theorem dX8_countFollowing_7 : decode cX8_countFollowing 7 = .ok (.if_icmp .ge 21, 3) := by decide +kernel
theorem dX8_countFollowing_10 : decode cX8_countFollowing 10 = .ok (.aload_n 0, 1) := by decide +kernel
theorem dX8_countFollowing_11 : decode cX8_countFollowing 11 = .ok (.iload_n 3, 1) := by decide +kernel
theorem dX8_countFollowing_12 : decode cX8_countFollowing 12 = .ok (.invokevirtual 41, 3) := by decide +kernel
theorem dX8_countFollowing_15 : decode cX8_countFollowing 15 = .ok (.iload_n 1, 1) := by decide +kernel
theorem dX8_countFollowing_16 : decode cX8_countFollowing 16 = .ok (.if_icmp .ne 6, 3) := by decide +kernel
theorem dX8_countFollowing_19 : decode cX8_countFollowing 19 = .ok (.iinc 2 1, 3) := by decide +kernel
theorem dX8_countFollowing_22 : decode cX8_countFollowing 22 = .ok (.iinc 3 1, 3) := by decide +kernel
theorem dX8_countFollowing_25 : decode cX8_countFollowing 25 = .ok (.goto (-21), 3) := by decide +kernel
theorem dX8_countFollowing_28 : decode cX8_countFollowing 28 = .ok (.iload_n 2, 1) := by decide +kernel
theorem dX8_countFollowing_29 : decode cX8_countFollowing 29 = .ok (.ireturn, 1) := by decide +kernel
theorem dX8_countGoingUp_0 : decode cX8_countGoingUp 0 = .ok (.aload_n 0, 1) := by decide +kernel
theorem dX8_countGoingUp_1 : decode cX8_countGoingUp 1 = .ok (.getfield 18, 3) := by decide +kernel
theorem dX8_countGoingUp_4 : decode cX8_countGoingUp 4 = .ok (.iconst 0, 1) := by decide +kernel
theorem dX8_countGoingUp_5 : decode cX8_countGoingUp 5 = .ok (.iload_n 1, 1) := by decide +kernel
theorem dX8_countGoingUp_6 : decode cX8_countGoingUp 6 = .ok (.iastore, 1) := by decide +kernel
theorem dX8_countGoingUp_7 : decode cX8_countGoingUp 7 = .ok (.iconst 1, 1) := by decide +kernel
theorem dX8_countGoingUp_8 : decode cX8_countGoingUp 8 = .ok (.istore_n 2, 1) := by decide +kernel
theorem dX8_countGoingUp_9 : decode cX8_countGoingUp 9 = .ok (.iconst 0, 1) := by decide +kernel
theorem dX8_countGoingUp_10 : decode cX8_countGoingUp 10 = .ok (.istore_n 3, 1) := by decide +kernel
theorem dX8_countGoingUp_11 : decode cX8_countGoingUp 11 = .ok (.iload_n 3, 1) := by decide +kernel
theorem dX8_countGoingUp_12 : decode cX8_countGoingUp 12 = .ok (.iload_n 2, 1) := by decide +kernel
theorem dX8_countGoingUp_13 : decode cX8_countGoingUp 13 = .ok (.if_icmp .ge 81, 3) := by decide +kernel
theorem dX8_countGoingUp_16 : decode cX8_countGoingUp 16 = .ok (.iload_n 3, 1) := by decide +kernel
theorem dX8_countGoingUp_17 : decode cX8_countGoingUp 17 = .ok (.bipush 49, 2) := by decide +kernel
theorem dX8_countGoingUp_19 : decode cX8_countGoingUp 19 = .ok (.if_icmp .ge 75, 3) := by decide +kernel
theorem dX8_countGoingUp_22 : decode cX8_countGoingUp 22 = .ok (.iconst 0, 1) := by decide +kernel
theorem dX8_countGoingUp_23 : decode cX8_countGoingUp 23 = .ok (.istore 4, 2) := by decide +kernel
theorem dX8_countGoingUp_25 : decode cX8_countGoingUp 25 = .ok (.iload 4, 2) := by decide +kernel
theorem dX8_countGoingUp_27 : decode cX8_countGoingUp 27 = .ok (.iconst 4, 1) := by decide +kernel
theorem dX8_countGoingUp_28 : decode cX8_countGoingUp 28 = .ok (.if_icmp .ge 60, 3) := by decide +kernel
theorem dX8_countGoingUp_31 : decode cX8_countGoingUp 31 = .ok (.aload_n 0, 1) := by decide +kernel
theorem dX8_countGoingUp_32 : decode cX8_countGoingUp 32 = .ok (.getfield 18, 3) := by decide +kernel
theorem dX8_countGoingUp_35 : decode cX8_countGoingUp 35 = .ok (.iload_n 3, 1) := by decide +kernel
theorem dX8_countGoingUp_36 : decode cX8_countGoingUp 36 = .ok (.iaload, 1) := by decide +kernel
theorem dX8_countGoingUp_37 : decode cX8_countGoingUp 37 = .ok (.iload 4, 2) := by decide +kernel
theorem dX8_countGoingUp_39 : decode cX8_countGoingUp 39 = .ok (.invokestatic 21, 3) := by decide +kernel
theorem dX8_countGoingUp_42 : decode cX8_countGoingUp 42 = .ok (.istore 5, 2) := by decide +kernel
theorem dX8_countGoingUp_44 : decode cX8_countGoingUp 44 = .ok (.iload 5, 2) := by decide +kernel
theorem dX8_countGoingUp_46 : decode cX8_countGoingUp 46 = .ok (.iconst (-1), 1) := by decide +kernel
theorem dX8_countGoingUp_47 : decode cX8_countGoingUp 47 = .ok (.if_icmp .eq 35, 3) := by decide +kernel
theorem dX8_countGoingUp_50 : decode cX8_countGoingUp 50 = .ok (.aload_n 0, 1) := by decide +kernel
theorem dX8_countGoingUp_51 : decode cX8_countGoingUp 51 = .ok (.iload 5, 2) := by decide +kernel
theorem dX8_countGoingUp_53 : decode cX8_countGoingUp 53 = .ok (.invokevirtual 35, 3) := by decide +kernel
theorem dX8_countGoingUp_56 : decode cX8_countGoingUp 56 = .ok (.aload_n 0, 1) := by decide +kernel
theorem dX8_countGoingUp_57 : decode cX8_countGoingUp 57 = .ok (.getfield 18, 3) := by decide +kernel
theorem dX8_countGoingUp_60 : decode cX8_countGoingUp 60 = .ok (.iload_n 3, 1) := by decide +kernel
theorem dX8_countGoingUp_61 : decode cX8_countGoingUp 61 = .ok (.iaload, 1) := by decide +kernel
theorem dX8_countGoingUp_62 : decode cX8_countGoingUp 62 = .ok (.if_icmp .ne 20, 3) := by decide +kernel
theorem dX8_countGoingUp_65 : decode cX8_countGoingUp 65 = .ok (.iload_n 2, 1) := by decide +kernel
theorem dX8_countGoingUp_66 : decode cX8_countGoingUp 66 = .ok (.bipush 49, 2) := by decide +kernel
theorem dX8_countGoingUp_68 : decode cX8_countGoingUp 68 = .ok (.if_icmp .ge 14, 3) := by decide +kernel
theorem dX8_countGoingUp_71 : decode cX8_countGoingUp 71 = .ok (.aload_n 0, 1) := by decide +kernel
theorem dX8_countGoingUp_72 : decode cX8_countGoingUp 72 = .ok (.getfield 18, 3) := by decide +kernel
theorem dX8_countGoingUp_75 : decode cX8_countGoingUp 75 = .ok (.iload_n 2, 1) := by decide +kernel
theorem dX8_countGoingUp_76 : decode cX8_countGoingUp 76 = .ok (.iload 5, 2) := by decide +kernel
theorem dX8_countGoingUp_78 : decode cX8_countGoingUp 78 = .ok (.iastore, 1) := by decide +kernel
theorem dX8_countGoingUp_79 : decode cX8_countGoingUp 79 = .ok (.iinc 2 1, 3) := by decide +kernel
theorem dX8_countGoingUp_82 : decode cX8_countGoingUp 82 = .ok (.iinc 4 1, 3) := by decide +kernel
theorem dX8_countGoingUp_85 : decode cX8_countGoingUp 85 = .ok (.goto (-60), 3) := by decide +kernel
theorem dX8_countGoingUp_88 : decode cX8_countGoingUp 88 = .ok (.iinc 3 1, 3) := by decide +kernel
theorem dX8_countGoingUp_91 : decode cX8_countGoingUp 91 = .ok (.goto (-80), 3) := by decide +kernel
theorem dX8_countGoingUp_94 : decode cX8_countGoingUp 94 = .ok (.iload_n 2, 1) := by decide +kernel
theorem dX8_countGoingUp_95 : decode cX8_countGoingUp 95 = .ok (.ireturn, 1) := by decide +kernel
theorem dX9_init_0 : decode cX9_init 0 = .ok (.aload_n 0, 1) := by decide +kernel
theorem dX9_init_1 : decode cX9_init 1 = .ok (.invokespecial 3, 3) := by decide +kernel
theorem dX9_init_4 : decode cX9_init 4 = .ok (.aload_n 0, 1) := by decide +kernel
theorem dX9_init_5 : decode cX9_init 5 = .ok (.new 9, 3) := by decide +kernel
theorem dX9_init_8 : decode cX9_init 8 = .ok (.dup, 1) := by decide +kernel
theorem dX9_init_9 : decode cX9_init 9 = .ok (.invokespecial 11, 3) := by decide +kernel
theorem dX9_init_12 : decode cX9_init 12 = .ok (.putfield 12, 3) := by decide +kernel
theorem dX9_init_15 : decode cX9_init 15 = .ok (.aload_n 0, 1) := by decide +kernel
theorem dX9_init_16 : decode cX9_init 16 = .ok (.new 16, 3) := by decide +kernel
theorem dX9_init_19 : decode cX9_init 19 = .ok (.dup, 1) := by decide +kernel
theorem dX9_init_20 : decode cX9_init 20 = .ok (.invokespecial 18, 3) := by decide +kernel
theorem dX9_init_23 : decode cX9_init 23 = .ok (.putfield 19, 3) := by decide +kernel
theorem dX9_init_26 : decode cX9_init 26 = .ok (.aload_n 0, 1) := by decide +kernel
theorem dX9_init_27 : decode cX9_init 27 = .ok (.new 23, 3) := by decide +kernel
theorem dX9_init_30 : decode cX9_init 30 = .ok (.dup, 1) := by decide +kernel
theorem dX9_init_31 : decode cX9_init 31 = .ok (.invokespecial 25, 3) := by decide +kernel
theorem dX9_init_34 : decode cX9_init 34 = .ok (.putfield 26, 3) := by decide +kernel
theorem dX9_init_37 : decode cX9_init 37 = .ok (.aload_n 0, 1) := by decide +kernel
theorem dX9_init_38 : decode cX9_init 38 = .ok (.new 30, 3) := by decide +kernel
theorem dX9_init_41 : decode cX9_init 41 = .ok (.dup, 1) := by decide +kernel
theorem dX9_init_42 : decode cX9_init 42 = .ok (.invokespecial 32, 3) := by decide +kernel
theorem dX9_init_45 : decode cX9_init 45 = .ok (.putfield 33, 3) := by decide +kernel
theorem dX9_init_48 : decode cX9_init 48 = .ok (.aload_n 0, 1) := by decide +kernel
theorem dX9_init_49 : decode cX9_init 49 = .ok (.new 37, 3) := by decide +kernel
theorem dX9_init_52 : decode cX9_init 52 = .ok (.dup, 1) := by decide +kernel
theorem dX9_init_53 : decode cX9_init 53 = .ok (.invokespecial 39, 3) := by decide +kernel
theorem dX9_init_56 : decode cX9_init 56 = .ok (.putfield 40, 3) := by decide +kernel
theorem dX9_init_59 : decode cX9_init 59 = .ok (.aload_n 0, 1) := by decide +kernel
theorem dX9_init_60 : decode cX9_init 60 = .ok (.new 44, 3) := by decide +kernel
theorem dX9_init_63 : decode cX9_init 63 = .ok (.dup, 1) := by decide +kernel
theorem dX9_init_64 : decode cX9_init 64 = .ok (.invokespecial 46, 3) := by decide +kernel
theorem dX9_init_67 : decode cX9_init 67 = .ok (.putfield 47, 3) := by decide +kernel
theorem dX9_init_70 : decode cX9_init 70 = .ok (.aload_n 0, 1) := by decide +kernel
theorem dX9_init_71 : decode cX9_init 71 = .ok (.new 51, 3) := by decide +kernel
theorem dX9_init_74 : decode cX9_init 74 = .ok (.dup, 1) := by decide +kernel
theorem dX9_init_75 : decode cX9_init 75 = .ok (.invokespecial 53, 3) := by decide +kernel
theorem dX9_init_78 : decode cX9_init 78 = .ok (.putfield 54, 3) := by decide +kernel
theorem dX9_init_81 : decode cX9_init 81 = .ok (.aload_n 0, 1) := by decide +kernel
theorem dX9_init_82 : decode cX9_init 82 = .ok (.new 58, 3) := by decide +kernel
theorem dX9_init_85 : decode cX9_init 85 = .ok (.dup, 1) := by decide +kernel
theorem dX9_init_86 : decode cX9_init 86 = .ok (.invokespecial 60, 3) := by decide +kernel
theorem dX9_init_89 : decode cX9_init 89 = .ok (.putfield 61, 3) := by decide +kernel
theorem dX9_init_92 : decode cX9_init 92 = .ok (.aload_n 0, 1) := by decide +kernel
theorem dX9_init_93 : decode cX9_init 93 = .ok (.new 65, 3) := by decide +kernel
theorem dX9_init_96 : decode cX9_init 96 = .ok (.dup, 1) := by decide +kernel
theorem dX9_init_97 : decode cX9_init 97 = .ok (.invokespecial 67, 3) := by decide +kernel
theorem dX9_init_100 : decode cX9_init 100 = .ok (.putfield 68, 3) := by decide +kernel
theorem dX9_init_103 : decode cX9_init 103 = .ok (.return_, 1) := by decide +kernel
theorem dX9_set_0 : decode cX9_set 0 = .ok (.iload_n 1, 1) := by decide +kernel
theorem dX9_set_1 : decode cX9_set 1 = .ok (.iload_n 2, 1) := by decide +kernel
theorem dX9_set_2 : decode cX9_set 2 = .ok (.invokestatic 72, 3) := by decide +kernel
theorem dX9_set_5 : decode cX9_set 5 = .ok (.istore 4, 2) := by decide +kernel
theorem dX9_set_7 : decode cX9_set 7 = .ok (.iload_n 3, 1) := by decide +kernel
theorem dX9_set_8 : decode cX9_set 8 = .ok (.ifCond .lt 9, 3) := by decide +kernel
theorem dX9_set_11 : decode cX9_set 11 = .ok (.iload_n 3, 1) := by decide +kernel
theorem dX9_set_12 : decode cX9_set 12 = .ok (.bipush 99, 2) := by decide +kernel
theorem dX9_set_14 : decode cX9_set 14 = .ok (.if_icmp .le 13, 3) := by decide +kernel
theorem dX9_set_17 : decode cX9_set 17 = .ok (.new 76, 3) := by decide +kernel
theorem dX9_set_20 : decode cX9_set 20 = .ok (.dup, 1) := by decide +kernel
theorem dX9_set_21 : decode cX9_set 21 = .ok (.ldc 78, 2) := by decide +kernel
theorem dX9_set_23 : decode cX9_set 23 = .ok (.invokespecial 80, 3) := by decide +kernel
theorem dX9_set_26 : decode cX9_set 26 = .ok (.athrow, 1) := by decide +kernel
theorem dX9_set_27 : decode cX9_set 27 = .ok (.aload_n 0, 1) := by decide +kernel
theorem dX9_set_28 : decode cX9_set 28 = .ok (.getfield 68, 3) := by decide +kernel
theorem dX9_set_31 : decode cX9_set 31 = .ok (.aload_n 0, 1) := by decide +kernel
theorem dX9_set_32 : decode cX9_set 32 = .ok (.getfield 12, 3) := by decide +kernel
theorem dX9_set_35 : decode cX9_set 35 = .ok (.invokevirtual 83, 3) := by decide +kernel
theorem dX9_set_38 : decode cX9_set 38 = .ok (.aload_n 0, 1) := by decide +kernel
theorem dX9_set_39 : decode cX9_set 39 = .ok (.getfield 12, 3) := by decide +kernel
theorem dX9_set_42 : decode cX9_set 42 = .ok (.iload 4, 2) := by decide +kernel
theorem dX9_set_44 : decode cX9_set 44 = .ok (.invokevirtual 87, 3) := by decide +kernel
theorem dX9_set_47 : decode cX9_set 47 = .ok (.istore 5, 2) := by decide +kernel
theorem dX9_set_49 : decode cX9_set 49 = .ok (.aload_n 0, 1) := by decide +kernel
theorem dX9_set_50 : decode cX9_set 50 = .ok (.getfield 12, 3) := by decide +kernel
theorem dX9_set_53 : decode cX9_set 53 = .ok (.iload 4, 2) := by decide +kernel
theorem dX9_set_55 : decode cX9_set 55 = .ok (.iload_n 3, 1) := by decide +kernel
theorem dX9_set_56 : decode cX9_set 56 = .ok (.invokevirtual 91, 3) := by decide +kernel
theorem dX9_set_59 : decode cX9_set 59 = .ok (.iload 5, 2) := by decide +kernel
theorem dX9_set_61 : decode cX9_set 61 = .ok (.ireturn, 1) := by decide +kernel
theorem dX9_heap_0 : decode cX9_heap 0 = .ok (.iload_n 1, 1) := by decide +kernel
theorem dX9_heap_1 : decode cX9_heap 1 = .ok (.iload_n 2, 1) := by decide +kernel
theorem dX9_heap_2 : decode cX9_heap 2 = .ok (.invokestatic 72, 3) := by decide +kernel
theorem dX9_heap_5 : decode cX9_heap 5 = .ok (.istore 4, 2) := by decide +kernel
theorem dX9_heap_7 : decode cX9_heap 7 = .ok (.iload_n 3, 1) := by decide +kernel
theorem dX9_heap_8 : decode cX9_heap 8 = .ok (.bipush (-60), 2) := by decide +kernel
theorem dX9_heap_10 : decode cX9_heap 10 = .ok (.if_icmp .lt 13, 3) := by decide +kernel
theorem dX9_heap_13 : decode cX9_heap 13 = .ok (.iload_n 3, 1) := by decide +kernel
theorem dX9_heap_14 : decode cX9_heap 14 = .ok (.bipush 60, 2) := by decide +kernel
theorem dX9_heap_16 : decode cX9_heap 16 = .ok (.if_icmp .gt 7, 3) := by decide +kernel
theorem dX9_heap_19 : decode cX9_heap 19 = .ok (.iload_n 3, 1) := by decide +kernel
theorem dX9_heap_20 : decode cX9_heap 20 = .ok (.ifCond .ne 13, 3) := by decide +kernel
theorem dX9_heap_23 : decode cX9_heap 23 = .ok (.new 76, 3) := by decide +kernel
theorem dX9_heap_26 : decode cX9_heap 26 = .ok (.dup, 1) := by decide +kernel
theorem dX9_heap_27 : decode cX9_heap 27 = .ok (.ldc 95, 2) := by decide +kernel
theorem dX9_heap_29 : decode cX9_heap 29 = .ok (.invokespecial 80, 3) := by decide +kernel
theorem dX9_heap_32 : decode cX9_heap 32 = .ok (.athrow, 1) := by decide +kernel
theorem dX9_heap_33 : decode cX9_heap 33 = .ok (.aload_n 0, 1) := by decide +kernel
theorem dX9_heap_34 : decode cX9_heap 34 = .ok (.getfield 68, 3) := by decide +kernel
theorem dX9_heap_37 : decode cX9_heap 37 = .ok (.aload_n 0, 1) := by decide +kernel
theorem dX9_heap_38 : decode cX9_heap 38 = .ok (.getfield 12, 3) := by decide +kernel
theorem dX9_heap_41 : decode cX9_heap 41 = .ok (.invokevirtual 83, 3) := by decide +kernel
theorem dX9_heap_44 : decode cX9_heap 44 = .ok (.aload_n 0, 1) := by decide +kernel
theorem dX9_heap_45 : decode cX9_heap 45 = .ok (.getfield 12, 3) := by decide +kernel
theorem dX9_heap_48 : decode cX9_heap 48 = .ok (.iload 4, 2) := by decide +kernel
theorem dX9_heap_50 : decode cX9_heap 50 = .ok (.iload_n 3, 1) := by decide +kernel
theorem dX9_heap_51 : decode cX9_heap 51 = .ok (.invokevirtual 97, 3) := by decide +kernel
theorem dX9_heap_54 : decode cX9_heap 54 = .ok (.ireturn, 1) := by decide +kernel
theorem dX9_smooth_0 : decode cX9_smooth 0 = .ok (.aload_n 0, 1) := by decide +kernel
theorem dX9_smooth_1 : decode cX9_smooth 1 = .ok (.getfield 68, 3) := by decide +kernel
theorem dX9_smooth_4 : decode cX9_smooth 4 = .ok (.aload_n 0, 1) := by decide +kernel
theorem dX9_smooth_5 : decode cX9_smooth 5 = .ok (.getfield 12, 3) := by decide +kernel
theorem dX9_smooth_8 : decode cX9_smooth 8 = .ok (.invokevirtual 83, 3) := by decide +kernel
theorem dX9_smooth_11 : decode cX9_smooth 11 = .ok (.aload_n 0, 1) := by decide +kernel
theorem dX9_smooth_12 : decode cX9_smooth 12 = .ok (.getfield 12, 3) := by decide +kernel
theorem dX9_smooth_15 : decode cX9_smooth 15 = .ok (.invokevirtual 100, 3) := by decide +kernel
theorem dX9_smooth_18 : decode cX9_smooth 18 = .ok (.ireturn, 1) := by decide +kernel
theorem dX9_wash_0 : decode cX9_wash 0 = .ok (.iload_n 1, 1) := by decide +kernel
theorem dX9_wash_1 : decode cX9_wash 1 = .ok (.iconst 1, 1) := by decide +kernel
theorem dX9_wash_2 : decode cX9_wash 2 = .ok (.if_icmp .lt 9, 3) := by decide +kernel
theorem dX9_wash_5 : decode cX9_wash 5 = .ok (.iload_n 1, 1) := by decide +kernel
theorem dX9_wash_6 : decode cX9_wash 6 = .ok (.bipush 50, 2) := by decide +kernel
theorem dX9_wash_8 : decode cX9_wash 8 = .ok (.if_icmp .le 13, 3) := by decide +kernel
theorem dX9_wash_11 : decode cX9_wash 11 = .ok (.new 76, 3) := by decide +kernel
theorem dX9_wash_14 : decode cX9_wash 14 = .ok (.dup, 1) := by decide +kernel
theorem dX9_wash_15 : decode cX9_wash 15 = .ok (.ldc 104, 2) := by decide +kernel
theorem dX9_wash_17 : decode cX9_wash 17 = .ok (.invokespecial 80, 3) := by decide +kernel
theorem dX9_wash_20 : decode cX9_wash 20 = .ok (.athrow, 1) := by decide +kernel
theorem dX9_wash_21 : decode cX9_wash 21 = .ok (.aload_n 0, 1) := by decide +kernel
theorem dX9_wash_22 : decode cX9_wash 22 = .ok (.getfield 68, 3) := by decide +kernel
theorem dX9_wash_25 : decode cX9_wash 25 = .ok (.aload_n 0, 1) := by decide +kernel
theorem dX9_wash_26 : decode cX9_wash 26 = .ok (.getfield 12, 3) := by decide +kernel
theorem dX9_wash_29 : decode cX9_wash 29 = .ok (.invokevirtual 83, 3) := by decide +kernel
theorem dX9_wash_32 : decode cX9_wash 32 = .ok (.iconst 0, 1) := by decide +kernel
theorem dX9_wash_33 : decode cX9_wash 33 = .ok (.istore_n 2, 1) := by decide +kernel
theorem dX9_wash_34 : decode cX9_wash 34 = .ok (.iconst 0, 1) := by decide +kernel
theorem dX9_wash_35 : decode cX9_wash 35 = .ok (.istore_n 3, 1) := by decide +kernel
theorem dX9_wash_36 : decode cX9_wash 36 = .ok (.iload_n 3, 1) := by decide +kernel
theorem dX9_wash_37 : decode cX9_wash 37 = .ok (.iload_n 1, 1) := by decide +kernel
theorem dX9_wash_38 : decode cX9_wash 38 = .ok (.if_icmp .ge 34, 3) := by decide +kernel
theorem dX9_wash_41 : decode cX9_wash 41 = .ok (.aload_n 0, 1) := by decide +kernel
theorem dX9_wash_42 : decode cX9_wash 42 = .ok (.getfield 33, 3) := by decide +kernel
theorem dX9_wash_45 : decode cX9_wash 45 = .ok (.aload_n 0, 1) := by decide +kernel
theorem dX9_wash_46 : decode cX9_wash 46 = .ok (.getfield 12, 3) := by decide +kernel
theorem dX9_wash_49 : decode cX9_wash 49 = .ok (.invokevirtual 106, 3) := by decide +kernel
theorem dX9_wash_52 : decode cX9_wash 52 = .ok (.iload_n 2, 1) := by decide +kernel
theorem dX9_wash_53 : decode cX9_wash 53 = .ok (.aload_n 0, 1) := by decide +kernel
theorem dX9_wash_54 : decode cX9_wash 54 = .ok (.getfield 12, 3) := by decide +kernel
theorem dX9_wash_57 : decode cX9_wash 57 = .ok (.aload_n 0, 1) := by decide +kernel
theorem dX9_wash_58 : decode cX9_wash 58 = .ok (.getfield 33, 3) := by decide +kernel
theorem dX9_wash_61 : decode cX9_wash 61 = .ok (.invokevirtual 109, 3) := by decide +kernel
theorem dX9_wash_64 : decode cX9_wash 64 = .ok (.iadd, 1) := by decide +kernel
theorem dX9_wash_65 : decode cX9_wash 65 = .ok (.istore_n 2, 1) := by decide +kernel
theorem dX9_wash_66 : decode cX9_wash 66 = .ok (.iinc 3 1, 3) := by decide +kernel
theorem dX9_wash_69 : decode cX9_wash 69 = .ok (.goto (-33), 3) := by decide +kernel
theorem dX9_wash_72 : decode cX9_wash 72 = .ok (.iload_n 2, 1) := by decide +kernel
theorem dX9_wash_73 : decode cX9_wash 73 = .ok (.ireturn, 1) := by decide +kernel
theorem dX9_turnMap_0 : decode cX9_turnMap 0 = .ok (.aload_n 0, 1) := by decide +kernel
theorem dX9_turnMap_1 : decode cX9_turnMap 1 = .ok (.getfield 68, 3) := by decide +kernel
theorem dX9_turnMap_4 : decode cX9_turnMap 4 = .ok (.aload_n 0, 1) := by decide +kernel
theorem dX9_turnMap_5 : decode cX9_turnMap 5 = .ok (.getfield 12, 3) := by decide +kernel
theorem dX9_turnMap_8 : decode cX9_turnMap 8 = .ok (.invokevirtual 83, 3) := by decide +kernel
theorem dX9_turnMap_11 : decode cX9_turnMap 11 = .ok (.aload_n 0, 1) := by decide +kernel
theorem dX9_turnMap_12 : decode cX9_turnMap 12 = .ok (.getfield 12, 3) := by decide +kernel
theorem dX9_turnMap_15 : decode cX9_turnMap 15 = .ok (.invokevirtual 113, 3) := by decide +kernel
theorem dX9_turnMap_18 : decode cX9_turnMap 18 = .ok (.ireturn, 1) := by decide +kernel
theorem dX9_heightOf_0 : decode cX9_heightOf 0 = .ok (.aload_n 0, 1) := by decide +kernel
theorem dX9_heightOf_1 : decode cX9_heightOf 1 = .ok (.getfield 12, 3) := by decide +kernel
theorem dX9_heightOf_4 : decode cX9_heightOf 4 = .ok (.iload_n 1, 1) := by decide +kernel
theorem dX9_heightOf_5 : decode cX9_heightOf 5 = .ok (.iload_n 2, 1) := by decide +kernel
theorem dX9_heightOf_6 : decode cX9_heightOf 6 = .ok (.invokestatic 72, 3) := by decide +kernel
theorem dX9_heightOf_9 : decode cX9_heightOf 9 = .ok (.invokevirtual 87, 3) := by decide +kernel
theorem dX9_heightOf_12 : decode cX9_heightOf 12 = .ok (.ireturn, 1) := by decide +kernel
theorem dX9_summit_0 : decode cX9_summit 0 = .ok (.iconst 0, 1) := by decide +kernel
theorem dX9_summit_1 : decode cX9_summit 1 = .ok (.istore_n 1, 1) := by decide +kernel
theorem dX9_summit_2 : decode cX9_summit 2 = .ok (.iconst 1, 1) := by decide +kernel
theorem dX9_summit_3 : decode cX9_summit 3 = .ok (.istore_n 2, 1) := by decide +kernel
theorem dX9_summit_4 : decode cX9_summit 4 = .ok (.iload_n 2, 1) := by decide +kernel
theorem dX9_summit_5 : decode cX9_summit 5 = .ok (.bipush 49, 2) := by decide +kernel
theorem dX9_summit_7 : decode cX9_summit 7 = .ok (.if_icmp .ge 30, 3) := by decide +kernel
theorem dX9_summit_10 : decode cX9_summit 10 = .ok (.aload_n 0, 1) := by decide +kernel
theorem dX9_summit_11 : decode cX9_summit 11 = .ok (.getfield 12, 3) := by decide +kernel
theorem dX9_summit_14 : decode cX9_summit 14 = .ok (.iload_n 2, 1) := by decide +kernel
theorem dX9_summit_15 : decode cX9_summit 15 = .ok (.invokevirtual 87, 3) := by decide +kernel
theorem dX9_summit_18 : decode cX9_summit 18 = .ok (.aload_n 0, 1) := by decide +kernel
theorem dX9_summit_19 : decode cX9_summit 19 = .ok (.getfield 12, 3) := by decide +kernel
theorem dX9_summit_22 : decode cX9_summit 22 = .ok (.iload_n 1, 1) := by decide +kernel
theorem dX9_summit_23 : decode cX9_summit 23 = .ok (.invokevirtual 87, 3) := by decide +kernel
theorem dX9_summit_26 : decode cX9_summit 26 = .ok (.if_icmp .le 5, 3) := by decide +kernel
theorem dX9_summit_29 : decode cX9_summit 29 = .ok (.iload_n 2, 1) := by decide +kernel
theorem dX9_summit_30 : decode cX9_summit 30 = .ok (.istore_n 1, 1) := by decide +kernel
theorem dX9_summit_31 : decode cX9_summit 31 = .ok (.iinc 2 1, 3) := by decide +kernel
theorem dX9_summit_34 : decode cX9_summit 34 = .ok (.goto (-30), 3) := by decide +kernel
theorem dX9_summit_37 : decode cX9_summit 37 = .ok (.iload_n 1, 1) := by decide +kernel
theorem dX9_summit_38 : decode cX9_summit 38 = .ok (.ireturn, 1) := by decide +kernel
theorem dX9_bulk_0 : decode cX9_bulk 0 = .ok (.iconst 0, 1) := by decide +kernel
theorem dX9_bulk_1 : decode cX9_bulk 1 = .ok (.istore_n 1, 1) := by decide +kernel
theorem dX9_bulk_2 : decode cX9_bulk 2 = .ok (.iconst 0, 1) := by decide +kernel
theorem dX9_bulk_3 : decode cX9_bulk 3 = .ok (.istore_n 2, 1) := by decide +kernel
theorem dX9_bulk_4 : decode cX9_bulk 4 = .ok (.iload_n 2, 1) := by decide +kernel
theorem dX9_bulk_5 : decode cX9_bulk 5 = .ok (.bipush 49, 2) := by decide +kernel
theorem dX9_bulk_7 : decode cX9_bulk 7 = .ok (.if_icmp .ge 20, 3) := by decide +kernel
theorem dX9_bulk_10 : decode cX9_bulk 10 = .ok (.iload_n 1, 1) := by decide +kernel
theorem dX9_bulk_11 : decode cX9_bulk 11 = .ok (.aload_n 0, 1) := by decide +kernel
theorem dX9_bulk_12 : decode cX9_bulk 12 = .ok (.getfield 12, 3) := by decide +kernel
theorem dX9_bulk_15 : decode cX9_bulk 15 = .ok (.iload_n 2, 1) := by decide +kernel
theorem dX9_bulk_16 : decode cX9_bulk 16 = .ok (.invokevirtual 87, 3) := by decide +kernel
theorem dX9_bulk_19 : decode cX9_bulk 19 = .ok (.iadd, 1) := by decide +kernel
theorem dX9_bulk_20 : decode cX9_bulk 20 = .ok (.istore_n 1, 1) := by decide +kernel
theorem dX9_bulk_21 : decode cX9_bulk 21 = .ok (.iinc 2 1, 3) := by decide +kernel
theorem dX9_bulk_24 : decode cX9_bulk 24 = .ok (.goto (-20), 3) := by decide +kernel
theorem dX9_bulk_27 : decode cX9_bulk 27 = .ok (.iload_n 1, 1) := by decide +kernel
theorem dX9_bulk_28 : decode cX9_bulk 28 = .ok (.ireturn, 1) := by decide +kernel
theorem dX9_pointsAbove_0 : decode cX9_pointsAbove 0 = .ok (.iload_n 1, 1) := by decide +kernel
theorem dX9_pointsAbove_1 : decode cX9_pointsAbove 1 = .ok (.invokestatic 167, 3) := by decide +kernel
theorem dX9_pointsAbove_4 : decode cX9_pointsAbove 4 = .ok (.iconst 0, 1) := by decide +kernel
theorem dX9_pointsAbove_5 : decode cX9_pointsAbove 5 = .ok (.istore_n 2, 1) := by decide +kernel
theorem dX9_pointsAbove_6 : decode cX9_pointsAbove 6 = .ok (.iconst 0, 1) := by decide +kernel
theorem dX9_pointsAbove_7 : decode cX9_pointsAbove 7 = .ok (.istore_n 3, 1) := by decide +kernel
theorem dX9_pointsAbove_8 : decode cX9_pointsAbove 8 = .ok (.iload_n 3, 1) := by decide +kernel
theorem dX9_pointsAbove_9 : decode cX9_pointsAbove 9 = .ok (.bipush 49, 2) := by decide +kernel
theorem dX9_pointsAbove_11 : decode cX9_pointsAbove 11 = .ok (.if_icmp .ge 24, 3) := by decide +kernel
theorem dX9_pointsAbove_14 : decode cX9_pointsAbove 14 = .ok (.aload_n 0, 1) := by decide +kernel
theorem dX9_pointsAbove_15 : decode cX9_pointsAbove 15 = .ok (.getfield 12, 3) := by decide +kernel
theorem dX9_pointsAbove_18 : decode cX9_pointsAbove 18 = .ok (.iload_n 3, 1) := by decide +kernel
theorem dX9_pointsAbove_19 : decode cX9_pointsAbove 19 = .ok (.invokevirtual 87, 3) := by decide +kernel
theorem dX9_pointsAbove_22 : decode cX9_pointsAbove 22 = .ok (.iload_n 1, 1) := by decide +kernel
theorem dX9_pointsAbove_23 : decode cX9_pointsAbove 23 = .ok (.if_icmp .le 6, 3) := by decide +kernel
theorem dX9_pointsAbove_26 : decode cX9_pointsAbove 26 = .ok (.iinc 2 1, 3) := by decide +kernel
theorem dX9_pointsAbove_29 : decode cX9_pointsAbove 29 = .ok (.iinc 3 1, 3) := by decide +kernel
theorem dX9_pointsAbove_32 : decode cX9_pointsAbove 32 = .ok (.goto (-24), 3) := by decide +kernel
theorem dX9_pointsAbove_35 : decode cX9_pointsAbove 35 = .ok (.iload_n 2, 1) := by decide +kernel
theorem dX9_pointsAbove_36 : decode cX9_pointsAbove 36 = .ok (.ireturn, 1) := by decide +kernel
theorem dX9_bulkAbove_0 : decode cX9_bulkAbove 0 = .ok (.iload_n 1, 1) := by decide +kernel
theorem dX9_bulkAbove_1 : decode cX9_bulkAbove 1 = .ok (.invokestatic 167, 3) := by decide +kernel
theorem dX9_bulkAbove_4 : decode cX9_bulkAbove 4 = .ok (.iconst 0, 1) := by decide +kernel
theorem dX9_bulkAbove_5 : decode cX9_bulkAbove 5 = .ok (.istore_n 2, 1) := by decide +kernel
theorem dX9_bulkAbove_6 : decode cX9_bulkAbove 6 = .ok (.iconst 0, 1) := by decide +kernel
theorem dX9_bulkAbove_7 : decode cX9_bulkAbove 7 = .ok (.istore_n 3, 1) := by decide +kernel
theorem dX9_bulkAbove_8 : decode cX9_bulkAbove 8 = .ok (.iload_n 3, 1) := by decide +kernel
theorem dX9_bulkAbove_9 : decode cX9_bulkAbove 9 = .ok (.bipush 49, 2) := by decide +kernel
theorem dX9_bulkAbove_11 : decode cX9_bulkAbove 11 = .ok (.if_icmp .ge 26, 3) := by decide +kernel
theorem dX9_bulkAbove_14 : decode cX9_bulkAbove 14 = .ok (.iload_n 2, 1) := by decide +kernel
theorem dX9_bulkAbove_15 : decode cX9_bulkAbove 15 = .ok (.iconst 0, 1) := by decide +kernel
theorem dX9_bulkAbove_16 : decode cX9_bulkAbove 16 = .ok (.aload_n 0, 1) := by decide +kernel
theorem dX9_bulkAbove_17 : decode cX9_bulkAbove 17 = .ok (.getfield 12, 3) := by decide +kernel
theorem dX9_bulkAbove_20 : decode cX9_bulkAbove 20 = .ok (.iload_n 3, 1) := by decide +kernel
theorem dX9_bulkAbove_21 : decode cX9_bulkAbove 21 = .ok (.invokevirtual 87, 3) := by decide +kernel
theorem dX9_bulkAbove_24 : decode cX9_bulkAbove 24 = .ok (.iload_n 1, 1) := by decide +kernel
theorem dX9_bulkAbove_25 : decode cX9_bulkAbove 25 = .ok (.isub, 1) := by decide +kernel
theorem dX9_bulkAbove_26 : decode cX9_bulkAbove 26 = .ok (.invokestatic 170, 3) := by decide +kernel
theorem dX9_bulkAbove_29 : decode cX9_bulkAbove 29 = .ok (.iadd, 1) := by decide +kernel
theorem dX9_bulkAbove_30 : decode cX9_bulkAbove 30 = .ok (.istore_n 2, 1) := by decide +kernel
theorem dX9_bulkAbove_31 : decode cX9_bulkAbove 31 = .ok (.iinc 3 1, 3) := by decide +kernel
theorem dX9_bulkAbove_34 : decode cX9_bulkAbove 34 = .ok (.goto (-26), 3) := by decide +kernel
theorem dX9_bulkAbove_37 : decode cX9_bulkAbove 37 = .ok (.iload_n 2, 1) := by decide +kernel
theorem dX9_bulkAbove_38 : decode cX9_bulkAbove 38 = .ok (.ireturn, 1) := by decide +kernel
theorem dX9_crossingsByEdges_0 : decode cX9_crossingsByEdges 0 = .ok (.iload_n 1, 1) := by decide +kernel
theorem dX9_crossingsByEdges_1 : decode cX9_crossingsByEdges 1 = .ok (.invokestatic 167, 3) := by decide +kernel
theorem dX9_crossingsByEdges_4 : decode cX9_crossingsByEdges 4 = .ok (.iconst 0, 1) := by decide +kernel
theorem dX9_crossingsByEdges_5 : decode cX9_crossingsByEdges 5 = .ok (.istore_n 2, 1) := by decide +kernel
theorem dX9_crossingsByEdges_6 : decode cX9_crossingsByEdges 6 = .ok (.iconst 0, 1) := by decide +kernel
theorem dX9_crossingsByEdges_7 : decode cX9_crossingsByEdges 7 = .ok (.istore_n 3, 1) := by decide +kernel
theorem dX9_crossingsByEdges_8 : decode cX9_crossingsByEdges 8 = .ok (.iload_n 3, 1) := by decide +kernel
theorem dX9_crossingsByEdges_9 : decode cX9_crossingsByEdges 9 = .ok (.bipush 49, 2) := by decide +kernel
theorem dX9_crossingsByEdges_11 : decode cX9_crossingsByEdges 11 = .ok (.if_icmp .ge 106, 3) := by decide +kernel
theorem dX9_crossingsByEdges_14 : decode cX9_crossingsByEdges 14 = .ok (.aload_n 0, 1) := by decide +kernel
theorem dX9_crossingsByEdges_15 : decode cX9_crossingsByEdges 15 = .ok (.getfield 12, 3) := by decide +kernel
theorem dX9_crossingsByEdges_18 : decode cX9_crossingsByEdges 18 = .ok (.iload_n 3, 1) := by decide +kernel
theorem dX9_crossingsByEdges_19 : decode cX9_crossingsByEdges 19 = .ok (.invokevirtual 87, 3) := by decide +kernel
theorem dX9_crossingsByEdges_22 : decode cX9_crossingsByEdges 22 = .ok (.iload_n 1, 1) := by decide +kernel
theorem dX9_crossingsByEdges_23 : decode cX9_crossingsByEdges 23 = .ok (.if_icmp .le 7, 3) := by decide +kernel
theorem dX9_crossingsByEdges_26 : decode cX9_crossingsByEdges 26 = .ok (.iconst 1, 1) := by decide +kernel
theorem dX9_crossingsByEdges_27 : decode cX9_crossingsByEdges 27 = .ok (.goto 4, 3) := by decide +kernel
theorem dX9_crossingsByEdges_30 : decode cX9_crossingsByEdges 30 = .ok (.iconst 0, 1) := by decide +kernel
theorem dX9_crossingsByEdges_31 : decode cX9_crossingsByEdges 31 = .ok (.istore 4, 2) := by decide +kernel
theorem dX9_crossingsByEdges_33 : decode cX9_crossingsByEdges 33 = .ok (.iload_n 3, 1) := by decide +kernel
theorem dX9_crossingsByEdges_34 : decode cX9_crossingsByEdges 34 = .ok (.iconst 1, 1) := by decide +kernel
theorem dX9_crossingsByEdges_35 : decode cX9_crossingsByEdges 35 = .ok (.invokestatic 175, 3) := by decide +kernel
theorem dX9_crossingsByEdges_38 : decode cX9_crossingsByEdges 38 = .ok (.istore 5, 2) := by decide +kernel
theorem dX9_crossingsByEdges_40 : decode cX9_crossingsByEdges 40 = .ok (.iload_n 3, 1) := by decide +kernel
theorem dX9_crossingsByEdges_41 : decode cX9_crossingsByEdges 41 = .ok (.iconst 2, 1) := by decide +kernel
theorem dX9_crossingsByEdges_42 : decode cX9_crossingsByEdges 42 = .ok (.invokestatic 175, 3) := by decide +kernel
theorem dX9_crossingsByEdges_45 : decode cX9_crossingsByEdges 45 = .ok (.istore 6, 2) := by decide +kernel
theorem dX9_crossingsByEdges_47 : decode cX9_crossingsByEdges 47 = .ok (.iload 5, 2) := by decide +kernel
theorem dX9_crossingsByEdges_49 : decode cX9_crossingsByEdges 49 = .ok (.iconst (-1), 1) := by decide +kernel
theorem dX9_crossingsByEdges_50 : decode cX9_crossingsByEdges 50 = .ok (.if_icmp .eq 29, 3) := by decide +kernel
theorem dX9_crossingsByEdges_53 : decode cX9_crossingsByEdges 53 = .ok (.iload 4, 2) := by decide +kernel
theorem dX9_crossingsByEdges_55 : decode cX9_crossingsByEdges 55 = .ok (.aload_n 0, 1) := by decide +kernel
theorem dX9_crossingsByEdges_56 : decode cX9_crossingsByEdges 56 = .ok (.getfield 12, 3) := by decide +kernel
theorem dX9_crossingsByEdges_59 : decode cX9_crossingsByEdges 59 = .ok (.iload 5, 2) := by decide +kernel
theorem dX9_crossingsByEdges_61 : decode cX9_crossingsByEdges 61 = .ok (.invokevirtual 87, 3) := by decide +kernel
theorem dX9_crossingsByEdges_64 : decode cX9_crossingsByEdges 64 = .ok (.iload_n 1, 1) := by decide +kernel
theorem dX9_crossingsByEdges_65 : decode cX9_crossingsByEdges 65 = .ok (.if_icmp .le 7, 3) := by decide +kernel
theorem dX9_crossingsByEdges_68 : decode cX9_crossingsByEdges 68 = .ok (.iconst 1, 1) := by decide +kernel
theorem dX9_crossingsByEdges_69 : decode cX9_crossingsByEdges 69 = .ok (.goto 4, 3) := by decide +kernel
theorem dX9_crossingsByEdges_72 : decode cX9_crossingsByEdges 72 = .ok (.iconst 0, 1) := by decide +kernel
theorem dX9_crossingsByEdges_73 : decode cX9_crossingsByEdges 73 = .ok (.if_icmp .eq 6, 3) := by decide +kernel
theorem dX9_crossingsByEdges_76 : decode cX9_crossingsByEdges 76 = .ok (.iinc 2 1, 3) := by decide +kernel
theorem dX9_crossingsByEdges_79 : decode cX9_crossingsByEdges 79 = .ok (.iload 6, 2) := by decide +kernel
theorem dX9_crossingsByEdges_81 : decode cX9_crossingsByEdges 81 = .ok (.iconst (-1), 1) := by decide +kernel
theorem dX9_crossingsByEdges_82 : decode cX9_crossingsByEdges 82 = .ok (.if_icmp .eq 29, 3) := by decide +kernel
theorem dX9_crossingsByEdges_85 : decode cX9_crossingsByEdges 85 = .ok (.iload 4, 2) := by decide +kernel
theorem dX9_crossingsByEdges_87 : decode cX9_crossingsByEdges 87 = .ok (.aload_n 0, 1) := by decide +kernel
theorem dX9_crossingsByEdges_88 : decode cX9_crossingsByEdges 88 = .ok (.getfield 12, 3) := by decide +kernel
theorem dX9_crossingsByEdges_91 : decode cX9_crossingsByEdges 91 = .ok (.iload 6, 2) := by decide +kernel
theorem dX9_crossingsByEdges_93 : decode cX9_crossingsByEdges 93 = .ok (.invokevirtual 87, 3) := by decide +kernel
theorem dX9_crossingsByEdges_96 : decode cX9_crossingsByEdges 96 = .ok (.iload_n 1, 1) := by decide +kernel
theorem dX9_crossingsByEdges_97 : decode cX9_crossingsByEdges 97 = .ok (.if_icmp .le 7, 3) := by decide +kernel
theorem dX9_crossingsByEdges_100 : decode cX9_crossingsByEdges 100 = .ok (.iconst 1, 1) := by decide +kernel
theorem dX9_crossingsByEdges_101 : decode cX9_crossingsByEdges 101 = .ok (.goto 4, 3) := by decide +kernel
theorem dX9_crossingsByEdges_104 : decode cX9_crossingsByEdges 104 = .ok (.iconst 0, 1) := by decide +kernel
theorem dX9_crossingsByEdges_105 : decode cX9_crossingsByEdges 105 = .ok (.if_icmp .eq 6, 3) := by decide +kernel
theorem dX9_crossingsByEdges_108 : decode cX9_crossingsByEdges 108 = .ok (.iinc 2 1, 3) := by decide +kernel
theorem dX9_crossingsByEdges_111 : decode cX9_crossingsByEdges 111 = .ok (.iinc 3 1, 3) := by decide +kernel
theorem dX9_crossingsByEdges_114 : decode cX9_crossingsByEdges 114 = .ok (.goto (-106), 3) := by decide +kernel
theorem dX9_crossingsByEdges_117 : decode cX9_crossingsByEdges 117 = .ok (.iload_n 2, 1) := by decide +kernel
theorem dX9_crossingsByEdges_118 : decode cX9_crossingsByEdges 118 = .ok (.ireturn, 1) := by decide +kernel
theorem dX9_crossingsByPieces_0 : decode cX9_crossingsByPieces 0 = .ok (.iload_n 1, 1) := by decide +kernel
theorem dX9_crossingsByPieces_1 : decode cX9_crossingsByPieces 1 = .ok (.invokestatic 167, 3) := by decide +kernel
theorem dX9_crossingsByPieces_4 : decode cX9_crossingsByPieces 4 = .ok (.aload_n 0, 1) := by decide +kernel
theorem dX9_crossingsByPieces_5 : decode cX9_crossingsByPieces 5 = .ok (.getfield 26, 3) := by decide +kernel
theorem dX9_crossingsByPieces_8 : decode cX9_crossingsByPieces 8 = .ok (.aload_n 0, 1) := by decide +kernel
theorem dX9_crossingsByPieces_9 : decode cX9_crossingsByPieces 9 = .ok (.getfield 12, 3) := by decide +kernel
theorem dX9_crossingsByPieces_12 : decode cX9_crossingsByPieces 12 = .ok (.iload_n 1, 1) := by decide +kernel
theorem dX9_crossingsByPieces_13 : decode cX9_crossingsByPieces 13 = .ok (.invokevirtual 178, 3) := by decide +kernel
theorem dX9_crossingsByPieces_16 : decode cX9_crossingsByPieces 16 = .ok (.aload_n 0, 1) := by decide +kernel
theorem dX9_crossingsByPieces_17 : decode cX9_crossingsByPieces 17 = .ok (.getfield 26, 3) := by decide +kernel
theorem dX9_crossingsByPieces_20 : decode cX9_crossingsByPieces 20 = .ok (.invokevirtual 181, 3) := by decide +kernel
theorem dX9_crossingsByPieces_23 : decode cX9_crossingsByPieces 23 = .ok (.ireturn, 1) := by decide +kernel
theorem dX9_piecesIn_0 : decode cX9_piecesIn 0 = .ok (.iload_n 1, 1) := by decide +kernel
theorem dX9_piecesIn_1 : decode cX9_piecesIn 1 = .ok (.ifCond .lt 19, 3) := by decide +kernel
theorem dX9_piecesIn_4 : decode cX9_piecesIn 4 = .ok (.iload_n 1, 1) := by decide +kernel
theorem dX9_piecesIn_5 : decode cX9_piecesIn 5 = .ok (.bipush 6, 2) := by decide +kernel
theorem dX9_piecesIn_7 : decode cX9_piecesIn 7 = .ok (.if_icmp .ge 13, 3) := by decide +kernel
theorem dX9_piecesIn_10 : decode cX9_piecesIn 10 = .ok (.iload_n 2, 1) := by decide +kernel
theorem dX9_piecesIn_11 : decode cX9_piecesIn 11 = .ok (.ifCond .lt 9, 3) := by decide +kernel
theorem dX9_piecesIn_14 : decode cX9_piecesIn 14 = .ok (.iload_n 2, 1) := by decide +kernel
theorem dX9_piecesIn_15 : decode cX9_piecesIn 15 = .ok (.bipush 6, 2) := by decide +kernel
theorem dX9_piecesIn_17 : decode cX9_piecesIn 17 = .ok (.if_icmp .lt 13, 3) := by decide +kernel
theorem dX9_piecesIn_20 : decode cX9_piecesIn 20 = .ok (.new 184, 3) := by decide +kernel
theorem dX9_piecesIn_23 : decode cX9_piecesIn 23 = .ok (.dup, 1) := by decide +kernel
theorem dX9_piecesIn_24 : decode cX9_piecesIn 24 = .ok (.ldc 186, 2) := by decide +kernel
theorem dX9_piecesIn_26 : decode cX9_piecesIn 26 = .ok (.invokespecial 188, 3) := by decide +kernel
theorem dX9_piecesIn_29 : decode cX9_piecesIn 29 = .ok (.athrow, 1) := by decide +kernel
theorem dX9_piecesIn_30 : decode cX9_piecesIn 30 = .ok (.iload_n 3, 1) := by decide +kernel
theorem dX9_piecesIn_31 : decode cX9_piecesIn 31 = .ok (.invokestatic 167, 3) := by decide +kernel
theorem dX9_piecesIn_34 : decode cX9_piecesIn 34 = .ok (.aload_n 0, 1) := by decide +kernel
theorem dX9_piecesIn_35 : decode cX9_piecesIn 35 = .ok (.getfield 26, 3) := by decide +kernel
theorem dX9_piecesIn_38 : decode cX9_piecesIn 38 = .ok (.aload_n 0, 1) := by decide +kernel
theorem dX9_piecesIn_39 : decode cX9_piecesIn 39 = .ok (.getfield 12, 3) := by decide +kernel
theorem dX9_piecesIn_42 : decode cX9_piecesIn 42 = .ok (.iload_n 3, 1) := by decide +kernel
theorem dX9_piecesIn_43 : decode cX9_piecesIn 43 = .ok (.invokevirtual 178, 3) := by decide +kernel
theorem dX9_piecesIn_46 : decode cX9_piecesIn 46 = .ok (.aload_n 0, 1) := by decide +kernel
theorem dX9_piecesIn_47 : decode cX9_piecesIn 47 = .ok (.getfield 26, 3) := by decide +kernel
theorem dX9_piecesIn_50 : decode cX9_piecesIn 50 = .ok (.iload_n 1, 1) := by decide +kernel
theorem dX9_piecesIn_51 : decode cX9_piecesIn 51 = .ok (.iload_n 2, 1) := by decide +kernel
theorem dX9_piecesIn_52 : decode cX9_piecesIn 52 = .ok (.invokevirtual 189, 3) := by decide +kernel
theorem dX9_piecesIn_55 : decode cX9_piecesIn 55 = .ok (.iconst 2, 1) := by decide +kernel
theorem dX9_piecesIn_56 : decode cX9_piecesIn 56 = .ok (.idiv, 1) := by decide +kernel
theorem dX9_piecesIn_57 : decode cX9_piecesIn 57 = .ok (.ireturn, 1) := by decide +kernel
theorem dX9_linesByTracing_0 : decode cX9_linesByTracing 0 = .ok (.iload_n 1, 1) := by decide +kernel
theorem dX9_linesByTracing_1 : decode cX9_linesByTracing 1 = .ok (.invokestatic 167, 3) := by decide +kernel
theorem dX9_linesByTracing_4 : decode cX9_linesByTracing 4 = .ok (.aload_n 0, 1) := by decide +kernel
theorem dX9_linesByTracing_5 : decode cX9_linesByTracing 5 = .ok (.getfield 26, 3) := by decide +kernel
theorem dX9_linesByTracing_8 : decode cX9_linesByTracing 8 = .ok (.aload_n 0, 1) := by decide +kernel
theorem dX9_linesByTracing_9 : decode cX9_linesByTracing 9 = .ok (.getfield 12, 3) := by decide +kernel
theorem dX9_linesByTracing_12 : decode cX9_linesByTracing 12 = .ok (.iload_n 1, 1) := by decide +kernel
theorem dX9_linesByTracing_13 : decode cX9_linesByTracing 13 = .ok (.invokevirtual 178, 3) := by decide +kernel
theorem dX9_linesByTracing_16 : decode cX9_linesByTracing 16 = .ok (.aload_n 0, 1) := by decide +kernel
theorem dX9_linesByTracing_17 : decode cX9_linesByTracing 17 = .ok (.getfield 26, 3) := by decide +kernel
theorem dX9_linesByTracing_20 : decode cX9_linesByTracing 20 = .ok (.invokevirtual 192, 3) := by decide +kernel
theorem dX9_linesByTracing_23 : decode cX9_linesByTracing 23 = .ok (.aload_n 0, 1) := by decide +kernel
theorem dX9_linesByTracing_24 : decode cX9_linesByTracing 24 = .ok (.getfield 26, 3) := by decide +kernel
theorem dX9_linesByTracing_27 : decode cX9_linesByTracing 27 = .ok (.invokevirtual 195, 3) := by decide +kernel
theorem dX9_linesByTracing_30 : decode cX9_linesByTracing 30 = .ok (.ireturn, 1) := by decide +kernel
theorem dX9_linesByRegions_0 : decode cX9_linesByRegions 0 = .ok (.iload_n 1, 1) := by decide +kernel
theorem dX9_linesByRegions_1 : decode cX9_linesByRegions 1 = .ok (.invokestatic 167, 3) := by decide +kernel
theorem dX9_linesByRegions_4 : decode cX9_linesByRegions 4 = .ok (.aload_n 0, 1) := by decide +kernel
theorem dX9_linesByRegions_5 : decode cX9_linesByRegions 5 = .ok (.iload_n 1, 1) := by decide +kernel
theorem dX9_linesByRegions_6 : decode cX9_linesByRegions 6 = .ok (.invokevirtual 198, 3) := by decide +kernel
theorem dX9_linesByRegions_9 : decode cX9_linesByRegions 9 = .ok (.aload_n 0, 1) := by decide +kernel
theorem dX9_linesByRegions_10 : decode cX9_linesByRegions 10 = .ok (.iload_n 1, 1) := by decide +kernel
theorem dX9_linesByRegions_11 : decode cX9_linesByRegions 11 = .ok (.invokevirtual 201, 3) := by decide +kernel
theorem dX9_linesByRegions_14 : decode cX9_linesByRegions 14 = .ok (.iadd, 1) := by decide +kernel
theorem dX9_linesByRegions_15 : decode cX9_linesByRegions 15 = .ok (.iconst 1, 1) := by decide +kernel
theorem dX9_linesByRegions_16 : decode cX9_linesByRegions 16 = .ok (.isub, 1) := by decide +kernel
theorem dX9_linesByRegions_17 : decode cX9_linesByRegions 17 = .ok (.ireturn, 1) := by decide +kernel
theorem dX9_closedLines_0 : decode cX9_closedLines 0 = .ok (.iload_n 1, 1) := by decide +kernel
theorem dX9_closedLines_1 : decode cX9_closedLines 1 = .ok (.invokestatic 167, 3) := by decide +kernel
theorem dX9_closedLines_4 : decode cX9_closedLines 4 = .ok (.aload_n 0, 1) := by decide +kernel
theorem dX9_closedLines_5 : decode cX9_closedLines 5 = .ok (.getfield 26, 3) := by decide +kernel
theorem dX9_closedLines_8 : decode cX9_closedLines 8 = .ok (.aload_n 0, 1) := by decide +kernel
theorem dX9_closedLines_9 : decode cX9_closedLines 9 = .ok (.getfield 12, 3) := by decide +kernel
theorem dX9_closedLines_12 : decode cX9_closedLines 12 = .ok (.iload_n 1, 1) := by decide +kernel
theorem dX9_closedLines_13 : decode cX9_closedLines 13 = .ok (.invokevirtual 178, 3) := by decide +kernel
theorem dX9_closedLines_16 : decode cX9_closedLines 16 = .ok (.aload_n 0, 1) := by decide +kernel
theorem dX9_closedLines_17 : decode cX9_closedLines 17 = .ok (.getfield 26, 3) := by decide +kernel
theorem dX9_closedLines_20 : decode cX9_closedLines 20 = .ok (.invokevirtual 192, 3) := by decide +kernel
theorem dX9_closedLines_23 : decode cX9_closedLines 23 = .ok (.aload_n 0, 1) := by decide +kernel
theorem dX9_closedLines_24 : decode cX9_closedLines 24 = .ok (.getfield 26, 3) := by decide +kernel
theorem dX9_closedLines_27 : decode cX9_closedLines 27 = .ok (.invokevirtual 204, 3) := by decide +kernel
theorem dX9_closedLines_30 : decode cX9_closedLines 30 = .ok (.ireturn, 1) := by decide +kernel
theorem dX9_longestLine_0 : decode cX9_longestLine 0 = .ok (.iload_n 1, 1) := by decide +kernel
theorem dX9_longestLine_1 : decode cX9_longestLine 1 = .ok (.invokestatic 167, 3) := by decide +kernel
theorem dX9_longestLine_4 : decode cX9_longestLine 4 = .ok (.aload_n 0, 1) := by decide +kernel
theorem dX9_longestLine_5 : decode cX9_longestLine 5 = .ok (.getfield 26, 3) := by decide +kernel
theorem dX9_longestLine_8 : decode cX9_longestLine 8 = .ok (.aload_n 0, 1) := by decide +kernel
theorem dX9_longestLine_9 : decode cX9_longestLine 9 = .ok (.getfield 12, 3) := by decide +kernel
theorem dX9_longestLine_12 : decode cX9_longestLine 12 = .ok (.iload_n 1, 1) := by decide +kernel
theorem dX9_longestLine_13 : decode cX9_longestLine 13 = .ok (.invokevirtual 178, 3) := by decide +kernel
theorem dX9_longestLine_16 : decode cX9_longestLine 16 = .ok (.aload_n 0, 1) := by decide +kernel
theorem dX9_longestLine_17 : decode cX9_longestLine 17 = .ok (.getfield 26, 3) := by decide +kernel
theorem dX9_longestLine_20 : decode cX9_longestLine 20 = .ok (.invokevirtual 192, 3) := by decide +kernel
theorem dX9_longestLine_23 : decode cX9_longestLine 23 = .ok (.aload_n 0, 1) := by decide +kernel
theorem dX9_longestLine_24 : decode cX9_longestLine 24 = .ok (.getfield 26, 3) := by decide +kernel
theorem dX9_longestLine_27 : decode cX9_longestLine 27 = .ok (.invokevirtual 207, 3) := by decide +kernel
theorem dX9_longestLine_30 : decode cX9_longestLine 30 = .ok (.ireturn, 1) := by decide +kernel
theorem dX9_hills_0 : decode cX9_hills 0 = .ok (.iload_n 1, 1) := by decide +kernel
theorem dX9_hills_1 : decode cX9_hills 1 = .ok (.invokestatic 167, 3) := by decide +kernel
theorem dX9_hills_4 : decode cX9_hills 4 = .ok (.aload_n 0, 1) := by decide +kernel
theorem dX9_hills_5 : decode cX9_hills 5 = .ok (.iload_n 1, 1) := by decide +kernel
theorem dX9_hills_6 : decode cX9_hills 6 = .ok (.invokevirtual 198, 3) := by decide +kernel
theorem dX9_hills_9 : decode cX9_hills 9 = .ok (.ireturn, 1) := by decide +kernel
theorem dX9_hollows_0 : decode cX9_hollows 0 = .ok (.iload_n 1, 1) := by decide +kernel
theorem dX9_hollows_1 : decode cX9_hollows 1 = .ok (.invokestatic 167, 3) := by decide +kernel
theorem dX9_hollows_4 : decode cX9_hollows 4 = .ok (.aload_n 0, 1) := by decide +kernel
theorem dX9_hollows_5 : decode cX9_hollows 5 = .ok (.iload_n 1, 1) := by decide +kernel
theorem dX9_hollows_6 : decode cX9_hollows 6 = .ok (.invokevirtual 201, 3) := by decide +kernel
theorem dX9_hollows_9 : decode cX9_hollows 9 = .ok (.ireturn, 1) := by decide +kernel
theorem dX9_drainOf_0 : decode cX9_drainOf 0 = .ok (.iload_n 1, 1) := by decide +kernel
theorem dX9_drainOf_1 : decode cX9_drainOf 1 = .ok (.iload_n 2, 1) := by decide +kernel
theorem dX9_drainOf_2 : decode cX9_drainOf 2 = .ok (.invokestatic 72, 3) := by decide +kernel
theorem dX9_drainOf_5 : decode cX9_drainOf 5 = .ok (.istore_n 3, 1) := by decide +kernel
theorem dX9_drainOf_6 : decode cX9_drainOf 6 = .ok (.aload_n 0, 1) := by decide +kernel
theorem dX9_drainOf_7 : decode cX9_drainOf 7 = .ok (.getfield 33, 3) := by decide +kernel
theorem dX9_drainOf_10 : decode cX9_drainOf 10 = .ok (.aload_n 0, 1) := by decide +kernel
theorem dX9_drainOf_11 : decode cX9_drainOf 11 = .ok (.getfield 12, 3) := by decide +kernel
theorem dX9_drainOf_14 : decode cX9_drainOf 14 = .ok (.invokevirtual 106, 3) := by decide +kernel
theorem dX9_drainOf_17 : decode cX9_drainOf 17 = .ok (.aload_n 0, 1) := by decide +kernel
theorem dX9_drainOf_18 : decode cX9_drainOf 18 = .ok (.getfield 33, 3) := by decide +kernel
theorem dX9_drainOf_21 : decode cX9_drainOf 21 = .ok (.iload_n 3, 1) := by decide +kernel
theorem dX9_drainOf_22 : decode cX9_drainOf 22 = .ok (.invokevirtual 210, 3) := by decide +kernel
theorem dX9_drainOf_25 : decode cX9_drainOf 25 = .ok (.ifCond .eq 13, 3) := by decide +kernel
theorem dX9_drainOf_28 : decode cX9_drainOf 28 = .ok (.new 121, 3) := by decide +kernel
theorem dX9_drainOf_31 : decode cX9_drainOf 31 = .ok (.dup, 1) := by decide +kernel
theorem dX9_drainOf_32 : decode cX9_drainOf 32 = .ok (.ldc 213, 2) := by decide +kernel
theorem dX9_drainOf_34 : decode cX9_drainOf 34 = .ok (.invokespecial 125, 3) := by decide +kernel
theorem dX9_drainOf_37 : decode cX9_drainOf 37 = .ok (.athrow, 1) := by decide +kernel
theorem dX9_drainOf_38 : decode cX9_drainOf 38 = .ok (.aload_n 0, 1) := by decide +kernel
theorem dX9_drainOf_39 : decode cX9_drainOf 39 = .ok (.getfield 33, 3) := by decide +kernel
theorem dX9_drainOf_42 : decode cX9_drainOf 42 = .ok (.iload_n 3, 1) := by decide +kernel
theorem dX9_drainOf_43 : decode cX9_drainOf 43 = .ok (.invokevirtual 215, 3) := by decide +kernel
theorem dX9_drainOf_46 : decode cX9_drainOf 46 = .ok (.ireturn, 1) := by decide +kernel
theorem dX9_isSink_0 : decode cX9_isSink 0 = .ok (.iload_n 1, 1) := by decide +kernel
theorem dX9_isSink_1 : decode cX9_isSink 1 = .ok (.iload_n 2, 1) := by decide +kernel
theorem dX9_isSink_2 : decode cX9_isSink 2 = .ok (.invokestatic 72, 3) := by decide +kernel
theorem dX9_isSink_5 : decode cX9_isSink 5 = .ok (.istore_n 3, 1) := by decide +kernel
theorem dX9_isSink_6 : decode cX9_isSink 6 = .ok (.aload_n 0, 1) := by decide +kernel
theorem dX9_isSink_7 : decode cX9_isSink 7 = .ok (.getfield 33, 3) := by decide +kernel
theorem dX9_isSink_10 : decode cX9_isSink 10 = .ok (.aload_n 0, 1) := by decide +kernel
theorem dX9_isSink_11 : decode cX9_isSink 11 = .ok (.getfield 12, 3) := by decide +kernel
theorem dX9_isSink_14 : decode cX9_isSink 14 = .ok (.invokevirtual 106, 3) := by decide +kernel
theorem dX9_isSink_17 : decode cX9_isSink 17 = .ok (.aload_n 0, 1) := by decide +kernel
theorem dX9_isSink_18 : decode cX9_isSink 18 = .ok (.getfield 33, 3) := by decide +kernel
theorem dX9_isSink_21 : decode cX9_isSink 21 = .ok (.iload_n 3, 1) := by decide +kernel
theorem dX9_isSink_22 : decode cX9_isSink 22 = .ok (.invokevirtual 210, 3) := by decide +kernel
theorem dX9_isSink_25 : decode cX9_isSink 25 = .ok (.ireturn, 1) := by decide +kernel
theorem dX9_dropOf_0 : decode cX9_dropOf 0 = .ok (.iload_n 1, 1) := by decide +kernel
theorem dX9_dropOf_1 : decode cX9_dropOf 1 = .ok (.iload_n 2, 1) := by decide +kernel
theorem dX9_dropOf_2 : decode cX9_dropOf 2 = .ok (.invokestatic 72, 3) := by decide +kernel
theorem dX9_dropOf_5 : decode cX9_dropOf 5 = .ok (.istore_n 3, 1) := by decide +kernel
theorem dX9_dropOf_6 : decode cX9_dropOf 6 = .ok (.aload_n 0, 1) := by decide +kernel
theorem dX9_dropOf_7 : decode cX9_dropOf 7 = .ok (.getfield 33, 3) := by decide +kernel
theorem dX9_dropOf_10 : decode cX9_dropOf 10 = .ok (.aload_n 0, 1) := by decide +kernel
theorem dX9_dropOf_11 : decode cX9_dropOf 11 = .ok (.getfield 12, 3) := by decide +kernel
theorem dX9_dropOf_14 : decode cX9_dropOf 14 = .ok (.invokevirtual 106, 3) := by decide +kernel
theorem dX9_dropOf_17 : decode cX9_dropOf 17 = .ok (.aload_n 0, 1) := by decide +kernel
theorem dX9_dropOf_18 : decode cX9_dropOf 18 = .ok (.getfield 33, 3) := by decide +kernel
theorem dX9_dropOf_21 : decode cX9_dropOf 21 = .ok (.iload_n 3, 1) := by decide +kernel
theorem dX9_dropOf_22 : decode cX9_dropOf 22 = .ok (.invokevirtual 218, 3) := by decide +kernel
theorem dX9_dropOf_25 : decode cX9_dropOf 25 = .ok (.ireturn, 1) := by decide +kernel
theorem dX9_sinkOf_0 : decode cX9_sinkOf 0 = .ok (.iload_n 1, 1) := by decide +kernel
theorem dX9_sinkOf_1 : decode cX9_sinkOf 1 = .ok (.iload_n 2, 1) := by decide +kernel
theorem dX9_sinkOf_2 : decode cX9_sinkOf 2 = .ok (.invokestatic 72, 3) := by decide +kernel
theorem dX9_sinkOf_5 : decode cX9_sinkOf 5 = .ok (.istore_n 3, 1) := by decide +kernel
theorem dX9_sinkOf_6 : decode cX9_sinkOf 6 = .ok (.aload_n 0, 1) := by decide +kernel
theorem dX9_sinkOf_7 : decode cX9_sinkOf 7 = .ok (.getfield 33, 3) := by decide +kernel
theorem dX9_sinkOf_10 : decode cX9_sinkOf 10 = .ok (.aload_n 0, 1) := by decide +kernel
theorem dX9_sinkOf_11 : decode cX9_sinkOf 11 = .ok (.getfield 12, 3) := by decide +kernel
theorem dX9_sinkOf_14 : decode cX9_sinkOf 14 = .ok (.invokevirtual 106, 3) := by decide +kernel
theorem dX9_sinkOf_17 : decode cX9_sinkOf 17 = .ok (.aload_n 0, 1) := by decide +kernel
theorem dX9_sinkOf_18 : decode cX9_sinkOf 18 = .ok (.getfield 33, 3) := by decide +kernel
theorem dX9_sinkOf_21 : decode cX9_sinkOf 21 = .ok (.iload_n 3, 1) := by decide +kernel
theorem dX9_sinkOf_22 : decode cX9_sinkOf 22 = .ok (.invokevirtual 220, 3) := by decide +kernel
theorem dX9_sinkOf_25 : decode cX9_sinkOf 25 = .ok (.ireturn, 1) := by decide +kernel
theorem dX9_basinByFollowing_0 : decode cX9_basinByFollowing 0 = .ok (.iload_n 1, 1) := by decide +kernel
theorem dX9_basinByFollowing_1 : decode cX9_basinByFollowing 1 = .ok (.iload_n 2, 1) := by decide +kernel
theorem dX9_basinByFollowing_2 : decode cX9_basinByFollowing 2 = .ok (.invokestatic 72, 3) := by decide +kernel
theorem dX9_basinByFollowing_5 : decode cX9_basinByFollowing 5 = .ok (.istore_n 3, 1) := by decide +kernel
theorem dX9_basinByFollowing_6 : decode cX9_basinByFollowing 6 = .ok (.aload_n 0, 1) := by decide +kernel
theorem dX9_basinByFollowing_7 : decode cX9_basinByFollowing 7 = .ok (.getfield 33, 3) := by decide +kernel
theorem dX9_basinByFollowing_10 : decode cX9_basinByFollowing 10 = .ok (.aload_n 0, 1) := by decide +kernel
theorem dX9_basinByFollowing_11 : decode cX9_basinByFollowing 11 = .ok (.getfield 12, 3) := by decide +kernel
theorem dX9_basinByFollowing_14 : decode cX9_basinByFollowing 14 = .ok (.invokevirtual 106, 3) := by decide +kernel
theorem dX9_basinByFollowing_17 : decode cX9_basinByFollowing 17 = .ok (.aload_n 0, 1) := by decide +kernel
theorem dX9_basinByFollowing_18 : decode cX9_basinByFollowing 18 = .ok (.getfield 33, 3) := by decide +kernel
theorem dX9_basinByFollowing_21 : decode cX9_basinByFollowing 21 = .ok (.iload_n 3, 1) := by decide +kernel
theorem dX9_basinByFollowing_22 : decode cX9_basinByFollowing 22 = .ok (.invokevirtual 223, 3) := by decide +kernel
theorem dX9_basinByFollowing_25 : decode cX9_basinByFollowing 25 = .ok (.ireturn, 1) := by decide +kernel
theorem dX9_basinByGoingUp_0 : decode cX9_basinByGoingUp 0 = .ok (.iload_n 1, 1) := by decide +kernel
theorem dX9_basinByGoingUp_1 : decode cX9_basinByGoingUp 1 = .ok (.iload_n 2, 1) := by decide +kernel
theorem dX9_basinByGoingUp_2 : decode cX9_basinByGoingUp 2 = .ok (.invokestatic 72, 3) := by decide +kernel
theorem dX9_basinByGoingUp_5 : decode cX9_basinByGoingUp 5 = .ok (.istore_n 3, 1) := by decide +kernel
theorem dX9_basinByGoingUp_6 : decode cX9_basinByGoingUp 6 = .ok (.aload_n 0, 1) := by decide +kernel
theorem dX9_basinByGoingUp_7 : decode cX9_basinByGoingUp 7 = .ok (.getfield 33, 3) := by decide +kernel
theorem dX9_basinByGoingUp_10 : decode cX9_basinByGoingUp 10 = .ok (.aload_n 0, 1) := by decide +kernel
theorem dX9_basinByGoingUp_11 : decode cX9_basinByGoingUp 11 = .ok (.getfield 12, 3) := by decide +kernel
theorem dX9_basinByGoingUp_14 : decode cX9_basinByGoingUp 14 = .ok (.invokevirtual 106, 3) := by decide +kernel
theorem dX9_basinByGoingUp_17 : decode cX9_basinByGoingUp 17 = .ok (.aload_n 0, 1) := by decide +kernel
theorem dX9_basinByGoingUp_18 : decode cX9_basinByGoingUp 18 = .ok (.getfield 33, 3) := by decide +kernel
theorem dX9_basinByGoingUp_21 : decode cX9_basinByGoingUp 21 = .ok (.iload_n 3, 1) := by decide +kernel
theorem dX9_basinByGoingUp_22 : decode cX9_basinByGoingUp 22 = .ok (.invokevirtual 210, 3) := by decide +kernel
theorem dX9_basinByGoingUp_25 : decode cX9_basinByGoingUp 25 = .ok (.ifCond .eq 14, 3) := by decide +kernel
theorem dX9_basinByGoingUp_28 : decode cX9_basinByGoingUp 28 = .ok (.aload_n 0, 1) := by decide +kernel
theorem dX9_basinByGoingUp_29 : decode cX9_basinByGoingUp 29 = .ok (.getfield 33, 3) := by decide +kernel
theorem dX9_basinByGoingUp_32 : decode cX9_basinByGoingUp 32 = .ok (.iload_n 3, 1) := by decide +kernel
theorem dX9_basinByGoingUp_33 : decode cX9_basinByGoingUp 33 = .ok (.invokevirtual 226, 3) := by decide +kernel
theorem dX9_basinByGoingUp_36 : decode cX9_basinByGoingUp 36 = .ok (.goto 4, 3) := by decide +kernel
theorem dX9_basinByGoingUp_39 : decode cX9_basinByGoingUp 39 = .ok (.iconst 0, 1) := by decide +kernel
theorem dX9_basinByGoingUp_40 : decode cX9_basinByGoingUp 40 = .ok (.ireturn, 1) := by decide +kernel
theorem dX9_flowAt_0 : decode cX9_flowAt 0 = .ok (.iload_n 1, 1) := by decide +kernel
theorem dX9_flowAt_1 : decode cX9_flowAt 1 = .ok (.iload_n 2, 1) := by decide +kernel
theorem dX9_flowAt_2 : decode cX9_flowAt 2 = .ok (.invokestatic 72, 3) := by decide +kernel
theorem dX9_flowAt_5 : decode cX9_flowAt 5 = .ok (.istore_n 3, 1) := by decide +kernel
theorem dX9_flowAt_6 : decode cX9_flowAt 6 = .ok (.aload_n 0, 1) := by decide +kernel
theorem dX9_flowAt_7 : decode cX9_flowAt 7 = .ok (.getfield 33, 3) := by decide +kernel
theorem dX9_flowAt_10 : decode cX9_flowAt 10 = .ok (.aload_n 0, 1) := by decide +kernel
theorem dX9_flowAt_11 : decode cX9_flowAt 11 = .ok (.getfield 12, 3) := by decide +kernel
theorem dX9_flowAt_14 : decode cX9_flowAt 14 = .ok (.invokevirtual 106, 3) := by decide +kernel
theorem dX9_flowAt_17 : decode cX9_flowAt 17 = .ok (.aload_n 0, 1) := by decide +kernel
theorem dX9_flowAt_18 : decode cX9_flowAt 18 = .ok (.getfield 33, 3) := by decide +kernel
theorem dX9_flowAt_21 : decode cX9_flowAt 21 = .ok (.iload_n 3, 1) := by decide +kernel
theorem dX9_flowAt_22 : decode cX9_flowAt 22 = .ok (.invokevirtual 226, 3) := by decide +kernel
theorem dX9_flowAt_25 : decode cX9_flowAt 25 = .ok (.ireturn, 1) := by decide +kernel
theorem dX9_stepsToSink_0 : decode cX9_stepsToSink 0 = .ok (.iload_n 1, 1) := by decide +kernel
theorem dX9_stepsToSink_1 : decode cX9_stepsToSink 1 = .ok (.iload_n 2, 1) := by decide +kernel
theorem dX9_stepsToSink_2 : decode cX9_stepsToSink 2 = .ok (.invokestatic 72, 3) := by decide +kernel
theorem dX9_stepsToSink_5 : decode cX9_stepsToSink 5 = .ok (.istore_n 3, 1) := by decide +kernel
theorem dX9_stepsToSink_6 : decode cX9_stepsToSink 6 = .ok (.aload_n 0, 1) := by decide +kernel
theorem dX9_stepsToSink_7 : decode cX9_stepsToSink 7 = .ok (.getfield 33, 3) := by decide +kernel
theorem dX9_stepsToSink_10 : decode cX9_stepsToSink 10 = .ok (.aload_n 0, 1) := by decide +kernel
theorem dX9_stepsToSink_11 : decode cX9_stepsToSink 11 = .ok (.getfield 12, 3) := by decide +kernel
theorem dX9_stepsToSink_14 : decode cX9_stepsToSink 14 = .ok (.invokevirtual 106, 3) := by decide +kernel
theorem dX9_stepsToSink_17 : decode cX9_stepsToSink 17 = .ok (.aload_n 0, 1) := by decide +kernel
theorem dX9_stepsToSink_18 : decode cX9_stepsToSink 18 = .ok (.getfield 33, 3) := by decide +kernel
theorem dX9_stepsToSink_21 : decode cX9_stepsToSink 21 = .ok (.iload_n 3, 1) := by decide +kernel
theorem dX9_stepsToSink_22 : decode cX9_stepsToSink 22 = .ok (.invokevirtual 229, 3) := by decide +kernel
theorem dX9_stepsToSink_25 : decode cX9_stepsToSink 25 = .ok (.ireturn, 1) := by decide +kernel
theorem dX9_sinks_0 : decode cX9_sinks 0 = .ok (.aload_n 0, 1) := by decide +kernel
theorem dX9_sinks_1 : decode cX9_sinks 1 = .ok (.getfield 33, 3) := by decide +kernel
theorem dX9_sinks_4 : decode cX9_sinks 4 = .ok (.aload_n 0, 1) := by decide +kernel
theorem dX9_sinks_5 : decode cX9_sinks 5 = .ok (.getfield 12, 3) := by decide +kernel
theorem dX9_sinks_8 : decode cX9_sinks 8 = .ok (.invokevirtual 106, 3) := by decide +kernel
theorem dX9_sinks_11 : decode cX9_sinks 11 = .ok (.iconst 0, 1) := by decide +kernel
theorem dX9_sinks_12 : decode cX9_sinks 12 = .ok (.istore_n 1, 1) := by decide +kernel
theorem dX9_sinks_13 : decode cX9_sinks 13 = .ok (.iconst 0, 1) := by decide +kernel
theorem dX9_sinks_14 : decode cX9_sinks 14 = .ok (.istore_n 2, 1) := by decide +kernel
theorem dX9_sinks_15 : decode cX9_sinks 15 = .ok (.iload_n 2, 1) := by decide +kernel
theorem dX9_sinks_16 : decode cX9_sinks 16 = .ok (.bipush 49, 2) := by decide +kernel
theorem dX9_sinks_18 : decode cX9_sinks 18 = .ok (.if_icmp .ge 23, 3) := by decide +kernel
theorem dX9_sinks_21 : decode cX9_sinks 21 = .ok (.aload_n 0, 1) := by decide +kernel
theorem dX9_sinks_22 : decode cX9_sinks 22 = .ok (.getfield 33, 3) := by decide +kernel
theorem dX9_sinks_25 : decode cX9_sinks 25 = .ok (.iload_n 2, 1) := by decide +kernel
theorem dX9_sinks_26 : decode cX9_sinks 26 = .ok (.invokevirtual 210, 3) := by decide +kernel
theorem dX9_sinks_29 : decode cX9_sinks 29 = .ok (.ifCond .eq 6, 3) := by decide +kernel
theorem dX9_sinks_32 : decode cX9_sinks 32 = .ok (.iinc 1 1, 3) := by decide +kernel
theorem dX9_sinks_35 : decode cX9_sinks 35 = .ok (.iinc 2 1, 3) := by decide +kernel
theorem dX9_sinks_38 : decode cX9_sinks 38 = .ok (.goto (-23), 3) := by decide +kernel
theorem dX9_sinks_41 : decode cX9_sinks 41 = .ok (.iload_n 1, 1) := by decide +kernel
theorem dX9_sinks_42 : decode cX9_sinks 42 = .ok (.ireturn, 1) := by decide +kernel
theorem dX9_greatestBasin_0 : decode cX9_greatestBasin 0 = .ok (.aload_n 0, 1) := by decide +kernel
theorem dX9_greatestBasin_1 : decode cX9_greatestBasin 1 = .ok (.getfield 33, 3) := by decide +kernel
theorem dX9_greatestBasin_4 : decode cX9_greatestBasin 4 = .ok (.aload_n 0, 1) := by decide +kernel
theorem dX9_greatestBasin_5 : decode cX9_greatestBasin 5 = .ok (.getfield 12, 3) := by decide +kernel
theorem dX9_greatestBasin_8 : decode cX9_greatestBasin 8 = .ok (.invokevirtual 106, 3) := by decide +kernel
theorem dX9_greatestBasin_11 : decode cX9_greatestBasin 11 = .ok (.iconst 0, 1) := by decide +kernel
theorem dX9_greatestBasin_12 : decode cX9_greatestBasin 12 = .ok (.istore_n 1, 1) := by decide +kernel
theorem dX9_greatestBasin_13 : decode cX9_greatestBasin 13 = .ok (.iconst 0, 1) := by decide +kernel
theorem dX9_greatestBasin_14 : decode cX9_greatestBasin 14 = .ok (.istore_n 2, 1) := by decide +kernel
theorem dX9_greatestBasin_15 : decode cX9_greatestBasin 15 = .ok (.iconst 0, 1) := by decide +kernel
theorem dX9_greatestBasin_16 : decode cX9_greatestBasin 16 = .ok (.istore_n 3, 1) := by decide +kernel
theorem dX9_greatestBasin_17 : decode cX9_greatestBasin 17 = .ok (.iload_n 3, 1) := by decide +kernel
theorem dX9_greatestBasin_18 : decode cX9_greatestBasin 18 = .ok (.bipush 49, 2) := by decide +kernel
theorem dX9_greatestBasin_20 : decode cX9_greatestBasin 20 = .ok (.if_icmp .ge 45, 3) := by decide +kernel
theorem dX9_greatestBasin_23 : decode cX9_greatestBasin 23 = .ok (.aload_n 0, 1) := by decide +kernel
theorem dX9_greatestBasin_24 : decode cX9_greatestBasin 24 = .ok (.getfield 33, 3) := by decide +kernel
theorem dX9_greatestBasin_27 : decode cX9_greatestBasin 27 = .ok (.iload_n 3, 1) := by decide +kernel
theorem dX9_greatestBasin_28 : decode cX9_greatestBasin 28 = .ok (.invokevirtual 210, 3) := by decide +kernel
theorem dX9_greatestBasin_31 : decode cX9_greatestBasin 31 = .ok (.ifCond .eq 14, 3) := by decide +kernel
theorem dX9_greatestBasin_34 : decode cX9_greatestBasin 34 = .ok (.aload_n 0, 1) := by decide +kernel
theorem dX9_greatestBasin_35 : decode cX9_greatestBasin 35 = .ok (.getfield 33, 3) := by decide +kernel
theorem dX9_greatestBasin_38 : decode cX9_greatestBasin 38 = .ok (.iload_n 3, 1) := by decide +kernel
theorem dX9_greatestBasin_39 : decode cX9_greatestBasin 39 = .ok (.invokevirtual 226, 3) := by decide +kernel
theorem dX9_greatestBasin_42 : decode cX9_greatestBasin 42 = .ok (.goto 4, 3) := by decide +kernel
theorem dX9_greatestBasin_45 : decode cX9_greatestBasin 45 = .ok (.iconst 0, 1) := by decide +kernel
theorem dX9_greatestBasin_46 : decode cX9_greatestBasin 46 = .ok (.istore 4, 2) := by decide +kernel
theorem dX9_greatestBasin_48 : decode cX9_greatestBasin 48 = .ok (.iload 4, 2) := by decide +kernel
theorem dX9_greatestBasin_50 : decode cX9_greatestBasin 50 = .ok (.iload_n 2, 1) := by decide +kernel
theorem dX9_greatestBasin_51 : decode cX9_greatestBasin 51 = .ok (.if_icmp .le 8, 3) := by decide +kernel
theorem dX9_greatestBasin_54 : decode cX9_greatestBasin 54 = .ok (.iload 4, 2) := by decide +kernel
theorem dX9_greatestBasin_56 : decode cX9_greatestBasin 56 = .ok (.istore_n 2, 1) := by decide +kernel
theorem dX9_greatestBasin_57 : decode cX9_greatestBasin 57 = .ok (.iload_n 3, 1) := by decide +kernel
theorem dX9_greatestBasin_58 : decode cX9_greatestBasin 58 = .ok (.istore_n 1, 1) := by decide +kernel
theorem dX9_greatestBasin_59 : decode cX9_greatestBasin 59 = .ok (.iinc 3 1, 3) := by decide +kernel
theorem dX9_greatestBasin_62 : decode cX9_greatestBasin 62 = .ok (.goto (-45), 3) := by decide +kernel
theorem dX9_greatestBasin_65 : decode cX9_greatestBasin 65 = .ok (.iload_n 1, 1) := by decide +kernel
theorem dX9_greatestBasin_66 : decode cX9_greatestBasin 66 = .ok (.ireturn, 1) := by decide +kernel
theorem dX9_spillByWays_0 : decode cX9_spillByWays 0 = .ok (.iload_n 1, 1) := by decide +kernel
theorem dX9_spillByWays_1 : decode cX9_spillByWays 1 = .ok (.iload_n 2, 1) := by decide +kernel
theorem dX9_spillByWays_2 : decode cX9_spillByWays 2 = .ok (.invokestatic 72, 3) := by decide +kernel
theorem dX9_spillByWays_5 : decode cX9_spillByWays 5 = .ok (.istore_n 3, 1) := by decide +kernel
theorem dX9_spillByWays_6 : decode cX9_spillByWays 6 = .ok (.aload_n 0, 1) := by decide +kernel
theorem dX9_spillByWays_7 : decode cX9_spillByWays 7 = .ok (.getfield 40, 3) := by decide +kernel
theorem dX9_spillByWays_10 : decode cX9_spillByWays 10 = .ok (.aload_n 0, 1) := by decide +kernel
theorem dX9_spillByWays_11 : decode cX9_spillByWays 11 = .ok (.getfield 12, 3) := by decide +kernel
theorem dX9_spillByWays_14 : decode cX9_spillByWays 14 = .ok (.invokevirtual 232, 3) := by decide +kernel
theorem dX9_spillByWays_17 : decode cX9_spillByWays 17 = .ok (.aload_n 0, 1) := by decide +kernel
theorem dX9_spillByWays_18 : decode cX9_spillByWays 18 = .ok (.getfield 40, 3) := by decide +kernel
theorem dX9_spillByWays_21 : decode cX9_spillByWays 21 = .ok (.iload_n 3, 1) := by decide +kernel
theorem dX9_spillByWays_22 : decode cX9_spillByWays 22 = .ok (.invokevirtual 235, 3) := by decide +kernel
theorem dX9_spillByWays_25 : decode cX9_spillByWays 25 = .ok (.ireturn, 1) := by decide +kernel
theorem dX9_spillByLevels_0 : decode cX9_spillByLevels 0 = .ok (.iload_n 1, 1) := by decide +kernel
theorem dX9_spillByLevels_1 : decode cX9_spillByLevels 1 = .ok (.iload_n 2, 1) := by decide +kernel
theorem dX9_spillByLevels_2 : decode cX9_spillByLevels 2 = .ok (.invokestatic 72, 3) := by decide +kernel
theorem dX9_spillByLevels_5 : decode cX9_spillByLevels 5 = .ok (.istore_n 3, 1) := by decide +kernel
theorem dX9_spillByLevels_6 : decode cX9_spillByLevels 6 = .ok (.aload_n 0, 1) := by decide +kernel
theorem dX9_spillByLevels_7 : decode cX9_spillByLevels 7 = .ok (.getfield 40, 3) := by decide +kernel
theorem dX9_spillByLevels_10 : decode cX9_spillByLevels 10 = .ok (.aload_n 0, 1) := by decide +kernel
theorem dX9_spillByLevels_11 : decode cX9_spillByLevels 11 = .ok (.getfield 12, 3) := by decide +kernel
theorem dX9_spillByLevels_14 : decode cX9_spillByLevels 14 = .ok (.aload_n 0, 1) := by decide +kernel
theorem dX9_spillByLevels_15 : decode cX9_spillByLevels 15 = .ok (.getfield 19, 3) := by decide +kernel
theorem dX9_spillByLevels_18 : decode cX9_spillByLevels 18 = .ok (.invokevirtual 238, 3) := by decide +kernel
theorem dX9_spillByLevels_21 : decode cX9_spillByLevels 21 = .ok (.aload_n 0, 1) := by decide +kernel
theorem dX9_spillByLevels_22 : decode cX9_spillByLevels 22 = .ok (.getfield 40, 3) := by decide +kernel
theorem dX9_spillByLevels_25 : decode cX9_spillByLevels 25 = .ok (.iload_n 3, 1) := by decide +kernel
theorem dX9_spillByLevels_26 : decode cX9_spillByLevels 26 = .ok (.invokevirtual 242, 3) := by decide +kernel
theorem dX9_spillByLevels_29 : decode cX9_spillByLevels 29 = .ok (.ireturn, 1) := by decide +kernel
theorem dX9_depthOf_0 : decode cX9_depthOf 0 = .ok (.iload_n 1, 1) := by decide +kernel
theorem dX9_depthOf_1 : decode cX9_depthOf 1 = .ok (.iload_n 2, 1) := by decide +kernel
theorem dX9_depthOf_2 : decode cX9_depthOf 2 = .ok (.invokestatic 72, 3) := by decide +kernel
theorem dX9_depthOf_5 : decode cX9_depthOf 5 = .ok (.istore_n 3, 1) := by decide +kernel
theorem dX9_depthOf_6 : decode cX9_depthOf 6 = .ok (.aload_n 0, 1) := by decide +kernel
theorem dX9_depthOf_7 : decode cX9_depthOf 7 = .ok (.getfield 40, 3) := by decide +kernel
theorem dX9_depthOf_10 : decode cX9_depthOf 10 = .ok (.aload_n 0, 1) := by decide +kernel
theorem dX9_depthOf_11 : decode cX9_depthOf 11 = .ok (.getfield 12, 3) := by decide +kernel
theorem dX9_depthOf_14 : decode cX9_depthOf 14 = .ok (.invokevirtual 232, 3) := by decide +kernel
theorem dX9_depthOf_17 : decode cX9_depthOf 17 = .ok (.aload_n 0, 1) := by decide +kernel
theorem dX9_depthOf_18 : decode cX9_depthOf 18 = .ok (.getfield 40, 3) := by decide +kernel
theorem dX9_depthOf_21 : decode cX9_depthOf 21 = .ok (.iload_n 3, 1) := by decide +kernel
theorem dX9_depthOf_22 : decode cX9_depthOf 22 = .ok (.invokevirtual 235, 3) := by decide +kernel
theorem dX9_depthOf_25 : decode cX9_depthOf 25 = .ok (.aload_n 0, 1) := by decide +kernel
theorem dX9_depthOf_26 : decode cX9_depthOf 26 = .ok (.getfield 12, 3) := by decide +kernel
theorem dX9_depthOf_29 : decode cX9_depthOf 29 = .ok (.iload_n 3, 1) := by decide +kernel
theorem dX9_depthOf_30 : decode cX9_depthOf 30 = .ok (.invokevirtual 87, 3) := by decide +kernel
theorem dX9_depthOf_33 : decode cX9_depthOf 33 = .ok (.isub, 1) := by decide +kernel
theorem dX9_depthOf_34 : decode cX9_depthOf 34 = .ok (.ireturn, 1) := by decide +kernel
theorem dX9_water_0 : decode cX9_water 0 = .ok (.aload_n 0, 1) := by decide +kernel
theorem dX9_water_1 : decode cX9_water 1 = .ok (.getfield 40, 3) := by decide +kernel
theorem dX9_water_4 : decode cX9_water 4 = .ok (.aload_n 0, 1) := by decide +kernel
theorem dX9_water_5 : decode cX9_water 5 = .ok (.getfield 12, 3) := by decide +kernel
theorem dX9_water_8 : decode cX9_water 8 = .ok (.invokevirtual 232, 3) := by decide +kernel
theorem dX9_water_11 : decode cX9_water 11 = .ok (.iconst 0, 1) := by decide +kernel
theorem dX9_water_12 : decode cX9_water 12 = .ok (.istore_n 1, 1) := by decide +kernel
theorem dX9_water_13 : decode cX9_water 13 = .ok (.iconst 0, 1) := by decide +kernel
theorem dX9_water_14 : decode cX9_water 14 = .ok (.istore_n 2, 1) := by decide +kernel
theorem dX9_water_15 : decode cX9_water 15 = .ok (.iload_n 2, 1) := by decide +kernel
theorem dX9_water_16 : decode cX9_water 16 = .ok (.bipush 49, 2) := by decide +kernel
theorem dX9_water_18 : decode cX9_water 18 = .ok (.if_icmp .ge 29, 3) := by decide +kernel
theorem dX9_water_21 : decode cX9_water 21 = .ok (.iload_n 1, 1) := by decide +kernel
theorem dX9_water_22 : decode cX9_water 22 = .ok (.aload_n 0, 1) := by decide +kernel
theorem dX9_water_23 : decode cX9_water 23 = .ok (.getfield 40, 3) := by decide +kernel
theorem dX9_water_26 : decode cX9_water 26 = .ok (.iload_n 2, 1) := by decide +kernel
theorem dX9_water_27 : decode cX9_water 27 = .ok (.invokevirtual 235, 3) := by decide +kernel
theorem dX9_water_30 : decode cX9_water 30 = .ok (.aload_n 0, 1) := by decide +kernel
theorem dX9_water_31 : decode cX9_water 31 = .ok (.getfield 12, 3) := by decide +kernel
theorem dX9_water_34 : decode cX9_water 34 = .ok (.iload_n 2, 1) := by decide +kernel
theorem dX9_water_35 : decode cX9_water 35 = .ok (.invokevirtual 87, 3) := by decide +kernel
theorem dX9_water_38 : decode cX9_water 38 = .ok (.isub, 1) := by decide +kernel
theorem dX9_water_39 : decode cX9_water 39 = .ok (.iadd, 1) := by decide +kernel
theorem dX9_water_40 : decode cX9_water 40 = .ok (.istore_n 1, 1) := by decide +kernel
theorem dX9_water_41 : decode cX9_water 41 = .ok (.iinc 2 1, 3) := by decide +kernel
theorem dX9_water_44 : decode cX9_water 44 = .ok (.goto (-29), 3) := by decide +kernel
theorem dX9_water_47 : decode cX9_water 47 = .ok (.iload_n 1, 1) := by decide +kernel
theorem dX9_water_48 : decode cX9_water 48 = .ok (.ireturn, 1) := by decide +kernel
theorem dX9_ponds_0 : decode cX9_ponds 0 = .ok (.aload_n 0, 1) := by decide +kernel
theorem dX9_ponds_1 : decode cX9_ponds 1 = .ok (.getfield 40, 3) := by decide +kernel
theorem dX9_ponds_4 : decode cX9_ponds 4 = .ok (.aload_n 0, 1) := by decide +kernel
theorem dX9_ponds_5 : decode cX9_ponds 5 = .ok (.getfield 12, 3) := by decide +kernel
theorem dX9_ponds_8 : decode cX9_ponds 8 = .ok (.invokevirtual 232, 3) := by decide +kernel
theorem dX9_ponds_11 : decode cX9_ponds 11 = .ok (.aload_n 0, 1) := by decide +kernel
theorem dX9_ponds_12 : decode cX9_ponds 12 = .ok (.getfield 19, 3) := by decide +kernel
theorem dX9_ponds_15 : decode cX9_ponds 15 = .ok (.invokevirtual 245, 3) := by decide +kernel
theorem dX9_ponds_18 : decode cX9_ponds 18 = .ok (.iconst 0, 1) := by decide +kernel
theorem dX9_ponds_19 : decode cX9_ponds 19 = .ok (.istore_n 1, 1) := by decide +kernel
theorem dX9_ponds_20 : decode cX9_ponds 20 = .ok (.iload_n 1, 1) := by decide +kernel
theorem dX9_ponds_21 : decode cX9_ponds 21 = .ok (.bipush 49, 2) := by decide +kernel
theorem dX9_ponds_23 : decode cX9_ponds 23 = .ok (.if_icmp .ge 36, 3) := by decide +kernel
theorem dX9_ponds_26 : decode cX9_ponds 26 = .ok (.aload_n 0, 1) := by decide +kernel
theorem dX9_ponds_27 : decode cX9_ponds 27 = .ok (.getfield 40, 3) := by decide +kernel
theorem dX9_ponds_30 : decode cX9_ponds 30 = .ok (.iload_n 1, 1) := by decide +kernel
theorem dX9_ponds_31 : decode cX9_ponds 31 = .ok (.invokevirtual 235, 3) := by decide +kernel
theorem dX9_ponds_34 : decode cX9_ponds 34 = .ok (.aload_n 0, 1) := by decide +kernel
theorem dX9_ponds_35 : decode cX9_ponds 35 = .ok (.getfield 12, 3) := by decide +kernel
theorem dX9_ponds_38 : decode cX9_ponds 38 = .ok (.iload_n 1, 1) := by decide +kernel
theorem dX9_ponds_39 : decode cX9_ponds 39 = .ok (.invokevirtual 87, 3) := by decide +kernel
theorem dX9_ponds_42 : decode cX9_ponds 42 = .ok (.if_icmp .le 11, 3) := by decide +kernel
theorem dX9_ponds_45 : decode cX9_ponds 45 = .ok (.aload_n 0, 1) := by decide +kernel
theorem dX9_ponds_46 : decode cX9_ponds 46 = .ok (.getfield 19, 3) := by decide +kernel
theorem dX9_ponds_49 : decode cX9_ponds 49 = .ok (.iload_n 1, 1) := by decide +kernel
theorem dX9_ponds_50 : decode cX9_ponds 50 = .ok (.invokevirtual 248, 3) := by decide +kernel
theorem dX9_ponds_53 : decode cX9_ponds 53 = .ok (.iinc 1 1, 3) := by decide +kernel
theorem dX9_ponds_56 : decode cX9_ponds 56 = .ok (.goto (-36), 3) := by decide +kernel
theorem dX9_ponds_59 : decode cX9_ponds 59 = .ok (.aload_n 0, 1) := by decide +kernel
theorem dX9_ponds_60 : decode cX9_ponds 60 = .ok (.getfield 19, 3) := by decide +kernel
theorem dX9_ponds_63 : decode cX9_ponds 63 = .ok (.iconst 4, 1) := by decide +kernel
theorem dX9_ponds_64 : decode cX9_ponds 64 = .ok (.invokevirtual 249, 3) := by decide +kernel
theorem dX9_ponds_67 : decode cX9_ponds 67 = .ok (.ireturn, 1) := by decide +kernel
theorem dX9_cutLength_0 : decode cX9_cutLength 0 = .ok (.iload_n 1, 1) := by decide +kernel
theorem dX9_cutLength_1 : decode cX9_cutLength 1 = .ok (.iload_n 2, 1) := by decide +kernel
theorem dX9_cutLength_2 : decode cX9_cutLength 2 = .ok (.invokestatic 72, 3) := by decide +kernel
theorem dX9_cutLength_5 : decode cX9_cutLength 5 = .ok (.istore 5, 2) := by decide +kernel
theorem dX9_cutLength_7 : decode cX9_cutLength 7 = .ok (.iload_n 3, 1) := by decide +kernel
theorem dX9_cutLength_8 : decode cX9_cutLength 8 = .ok (.iload 4, 2) := by decide +kernel
theorem dX9_cutLength_10 : decode cX9_cutLength 10 = .ok (.invokestatic 72, 3) := by decide +kernel
theorem dX9_cutLength_13 : decode cX9_cutLength 13 = .ok (.istore 6, 2) := by decide +kernel
theorem dX9_cutLength_15 : decode cX9_cutLength 15 = .ok (.aload_n 0, 1) := by decide +kernel
theorem dX9_cutLength_16 : decode cX9_cutLength 16 = .ok (.getfield 47, 3) := by decide +kernel
theorem dX9_cutLength_19 : decode cX9_cutLength 19 = .ok (.aload_n 0, 1) := by decide +kernel
theorem dX9_cutLength_20 : decode cX9_cutLength 20 = .ok (.getfield 12, 3) := by decide +kernel
theorem dX9_cutLength_23 : decode cX9_cutLength 23 = .ok (.iload 5, 2) := by decide +kernel
theorem dX9_cutLength_25 : decode cX9_cutLength 25 = .ok (.iload 6, 2) := by decide +kernel
theorem dX9_cutLength_27 : decode cX9_cutLength 27 = .ok (.invokevirtual 252, 3) := by decide +kernel
theorem dX9_cutLength_30 : decode cX9_cutLength 30 = .ok (.aload_n 0, 1) := by decide +kernel
theorem dX9_cutLength_31 : decode cX9_cutLength 31 = .ok (.getfield 47, 3) := by decide +kernel
theorem dX9_cutLength_34 : decode cX9_cutLength 34 = .ok (.invokevirtual 256, 3) := by decide +kernel
theorem dX9_cutLength_37 : decode cX9_cutLength 37 = .ok (.iconst 1, 1) := by decide +kernel
theorem dX9_cutLength_38 : decode cX9_cutLength 38 = .ok (.iadd, 1) := by decide +kernel
theorem dX9_cutLength_39 : decode cX9_cutLength 39 = .ok (.ireturn, 1) := by decide +kernel
theorem dX9_cutHeight_0 : decode cX9_cutHeight 0 = .ok (.iload_n 1, 1) := by decide +kernel
theorem dX9_cutHeight_1 : decode cX9_cutHeight 1 = .ok (.iload_n 2, 1) := by decide +kernel
theorem dX9_cutHeight_2 : decode cX9_cutHeight 2 = .ok (.invokestatic 72, 3) := by decide +kernel
theorem dX9_cutHeight_5 : decode cX9_cutHeight 5 = .ok (.istore 6, 2) := by decide +kernel
theorem dX9_cutHeight_7 : decode cX9_cutHeight 7 = .ok (.iload_n 3, 1) := by decide +kernel
theorem dX9_cutHeight_8 : decode cX9_cutHeight 8 = .ok (.iload 4, 2) := by decide +kernel
theorem dX9_cutHeight_10 : decode cX9_cutHeight 10 = .ok (.invokestatic 72, 3) := by decide +kernel
theorem dX9_cutHeight_13 : decode cX9_cutHeight 13 = .ok (.istore 7, 2) := by decide +kernel
theorem dX9_cutHeight_15 : decode cX9_cutHeight 15 = .ok (.aload_n 0, 1) := by decide +kernel
theorem dX9_cutHeight_16 : decode cX9_cutHeight 16 = .ok (.getfield 47, 3) := by decide +kernel
theorem dX9_cutHeight_19 : decode cX9_cutHeight 19 = .ok (.aload_n 0, 1) := by decide +kernel
theorem dX9_cutHeight_20 : decode cX9_cutHeight 20 = .ok (.getfield 12, 3) := by decide +kernel
theorem dX9_cutHeight_23 : decode cX9_cutHeight 23 = .ok (.iload 6, 2) := by decide +kernel
theorem dX9_cutHeight_25 : decode cX9_cutHeight 25 = .ok (.iload 7, 2) := by decide +kernel
theorem dX9_cutHeight_27 : decode cX9_cutHeight 27 = .ok (.invokevirtual 252, 3) := by decide +kernel
theorem dX9_cutHeight_30 : decode cX9_cutHeight 30 = .ok (.iload 5, 2) := by decide +kernel
theorem dX9_cutHeight_32 : decode cX9_cutHeight 32 = .ok (.ifCond .lt 15, 3) := by decide +kernel
theorem dX9_cutHeight_35 : decode cX9_cutHeight 35 = .ok (.iload 5, 2) := by decide +kernel
theorem dX9_cutHeight_37 : decode cX9_cutHeight 37 = .ok (.aload_n 0, 1) := by decide +kernel
theorem dX9_cutHeight_38 : decode cX9_cutHeight 38 = .ok (.getfield 47, 3) := by decide +kernel
theorem dX9_cutHeight_41 : decode cX9_cutHeight 41 = .ok (.invokevirtual 256, 3) := by decide +kernel
theorem dX9_cutHeight_44 : decode cX9_cutHeight 44 = .ok (.if_icmp .le 14, 3) := by decide +kernel
theorem dX9_cutHeight_47 : decode cX9_cutHeight 47 = .ok (.new 184, 3) := by decide +kernel
theorem dX9_cutHeight_50 : decode cX9_cutHeight 50 = .ok (.dup, 1) := by decide +kernel
theorem dX9_cutHeight_51 : decode cX9_cutHeight 51 = .ok (.ldc_w 259, 3) := by decide +kernel
theorem dX9_cutHeight_54 : decode cX9_cutHeight 54 = .ok (.invokespecial 188, 3) := by decide +kernel
theorem dX9_cutHeight_57 : decode cX9_cutHeight 57 = .ok (.athrow, 1) := by decide +kernel
theorem dX9_cutHeight_58 : decode cX9_cutHeight 58 = .ok (.aload_n 0, 1) := by decide +kernel
theorem dX9_cutHeight_59 : decode cX9_cutHeight 59 = .ok (.getfield 47, 3) := by decide +kernel
theorem dX9_cutHeight_62 : decode cX9_cutHeight 62 = .ok (.iload 5, 2) := by decide +kernel
theorem dX9_cutHeight_64 : decode cX9_cutHeight 64 = .ok (.invokevirtual 261, 3) := by decide +kernel
theorem dX9_cutHeight_67 : decode cX9_cutHeight 67 = .ok (.ireturn, 1) := by decide +kernel
theorem dX9_climb_0 : decode cX9_climb 0 = .ok (.iload_n 1, 1) := by decide +kernel
theorem dX9_climb_1 : decode cX9_climb 1 = .ok (.iload_n 2, 1) := by decide +kernel
theorem dX9_climb_2 : decode cX9_climb 2 = .ok (.invokestatic 72, 3) := by decide +kernel
theorem dX9_climb_5 : decode cX9_climb 5 = .ok (.istore 5, 2) := by decide +kernel
theorem dX9_climb_7 : decode cX9_climb 7 = .ok (.iload_n 3, 1) := by decide +kernel
theorem dX9_climb_8 : decode cX9_climb 8 = .ok (.iload 4, 2) := by decide +kernel
theorem dX9_climb_10 : decode cX9_climb 10 = .ok (.invokestatic 72, 3) := by decide +kernel
theorem dX9_climb_13 : decode cX9_climb 13 = .ok (.istore 6, 2) := by decide +kernel
theorem dX9_climb_15 : decode cX9_climb 15 = .ok (.aload_n 0, 1) := by decide +kernel
theorem dX9_climb_16 : decode cX9_climb 16 = .ok (.getfield 47, 3) := by decide +kernel
theorem dX9_climb_19 : decode cX9_climb 19 = .ok (.aload_n 0, 1) := by decide +kernel
theorem dX9_climb_20 : decode cX9_climb 20 = .ok (.getfield 12, 3) := by decide +kernel
theorem dX9_climb_23 : decode cX9_climb 23 = .ok (.iload 5, 2) := by decide +kernel
theorem dX9_climb_25 : decode cX9_climb 25 = .ok (.iload 6, 2) := by decide +kernel
theorem dX9_climb_27 : decode cX9_climb 27 = .ok (.invokevirtual 252, 3) := by decide +kernel
theorem dX9_climb_30 : decode cX9_climb 30 = .ok (.aload_n 0, 1) := by decide +kernel
theorem dX9_climb_31 : decode cX9_climb 31 = .ok (.getfield 47, 3) := by decide +kernel
theorem dX9_climb_34 : decode cX9_climb 34 = .ok (.invokevirtual 264, 3) := by decide +kernel
theorem dX9_climb_37 : decode cX9_climb 37 = .ok (.ireturn, 1) := by decide +kernel
theorem dX9_pass_0 : decode cX9_pass 0 = .ok (.iload_n 1, 1) := by decide +kernel
theorem dX9_pass_1 : decode cX9_pass 1 = .ok (.iload_n 2, 1) := by decide +kernel
theorem dX9_pass_2 : decode cX9_pass 2 = .ok (.invokestatic 72, 3) := by decide +kernel
theorem dX9_pass_5 : decode cX9_pass 5 = .ok (.istore 5, 2) := by decide +kernel
theorem dX9_pass_7 : decode cX9_pass 7 = .ok (.iload_n 3, 1) := by decide +kernel
theorem dX9_pass_8 : decode cX9_pass 8 = .ok (.iload 4, 2) := by decide +kernel
theorem dX9_pass_10 : decode cX9_pass 10 = .ok (.invokestatic 72, 3) := by decide +kernel
theorem dX9_pass_13 : decode cX9_pass 13 = .ok (.istore 6, 2) := by decide +kernel
theorem dX9_pass_15 : decode cX9_pass 15 = .ok (.aload_n 0, 1) := by decide +kernel
theorem dX9_pass_16 : decode cX9_pass 16 = .ok (.getfield 47, 3) := by decide +kernel
theorem dX9_pass_19 : decode cX9_pass 19 = .ok (.aload_n 0, 1) := by decide +kernel
theorem dX9_pass_20 : decode cX9_pass 20 = .ok (.getfield 12, 3) := by decide +kernel
theorem dX9_pass_23 : decode cX9_pass 23 = .ok (.iload 5, 2) := by decide +kernel
theorem dX9_pass_25 : decode cX9_pass 25 = .ok (.iload 6, 2) := by decide +kernel
theorem dX9_pass_27 : decode cX9_pass 27 = .ok (.invokevirtual 252, 3) := by decide +kernel
theorem dX9_pass_30 : decode cX9_pass 30 = .ok (.aload_n 0, 1) := by decide +kernel
theorem dX9_pass_31 : decode cX9_pass 31 = .ok (.getfield 47, 3) := by decide +kernel
theorem dX9_pass_34 : decode cX9_pass 34 = .ok (.invokevirtual 267, 3) := by decide +kernel
theorem dX9_pass_37 : decode cX9_pass 37 = .ok (.ireturn, 1) := by decide +kernel
theorem dX9_sees_0 : decode cX9_sees 0 = .ok (.iload_n 1, 1) := by decide +kernel
theorem dX9_sees_1 : decode cX9_sees 1 = .ok (.iload_n 2, 1) := by decide +kernel
theorem dX9_sees_2 : decode cX9_sees 2 = .ok (.invokestatic 72, 3) := by decide +kernel
theorem dX9_sees_5 : decode cX9_sees 5 = .ok (.istore 5, 2) := by decide +kernel
theorem dX9_sees_7 : decode cX9_sees 7 = .ok (.iload_n 3, 1) := by decide +kernel
theorem dX9_sees_8 : decode cX9_sees 8 = .ok (.iload 4, 2) := by decide +kernel
theorem dX9_sees_10 : decode cX9_sees 10 = .ok (.invokestatic 72, 3) := by decide +kernel
theorem dX9_sees_13 : decode cX9_sees 13 = .ok (.istore 6, 2) := by decide +kernel
theorem dX9_sees_15 : decode cX9_sees 15 = .ok (.aload_n 0, 1) := by decide +kernel
theorem dX9_sees_16 : decode cX9_sees 16 = .ok (.getfield 47, 3) := by decide +kernel
theorem dX9_sees_19 : decode cX9_sees 19 = .ok (.aload_n 0, 1) := by decide +kernel
theorem dX9_sees_20 : decode cX9_sees 20 = .ok (.getfield 12, 3) := by decide +kernel
theorem dX9_sees_23 : decode cX9_sees 23 = .ok (.iload 5, 2) := by decide +kernel
theorem dX9_sees_25 : decode cX9_sees 25 = .ok (.iload 6, 2) := by decide +kernel
theorem dX9_sees_27 : decode cX9_sees 27 = .ok (.invokevirtual 252, 3) := by decide +kernel
theorem dX9_sees_30 : decode cX9_sees 30 = .ok (.aload_n 0, 1) := by decide +kernel
theorem dX9_sees_31 : decode cX9_sees 31 = .ok (.getfield 47, 3) := by decide +kernel
theorem dX9_sees_34 : decode cX9_sees 34 = .ok (.invokevirtual 270, 3) := by decide +kernel
theorem dX9_sees_37 : decode cX9_sees 37 = .ok (.ireturn, 1) := by decide +kernel
theorem dX9_seenFrom_0 : decode cX9_seenFrom 0 = .ok (.iload_n 1, 1) := by decide +kernel
theorem dX9_seenFrom_1 : decode cX9_seenFrom 1 = .ok (.iload_n 2, 1) := by decide +kernel
theorem dX9_seenFrom_2 : decode cX9_seenFrom 2 = .ok (.invokestatic 72, 3) := by decide +kernel
theorem dX9_seenFrom_5 : decode cX9_seenFrom 5 = .ok (.istore_n 3, 1) := by decide +kernel
theorem dX9_seenFrom_6 : decode cX9_seenFrom 6 = .ok (.aload_n 0, 1) := by decide +kernel
theorem dX9_seenFrom_7 : decode cX9_seenFrom 7 = .ok (.getfield 54, 3) := by decide +kernel
theorem dX9_seenFrom_10 : decode cX9_seenFrom 10 = .ok (.aload_n 0, 1) := by decide +kernel
theorem dX9_seenFrom_11 : decode cX9_seenFrom 11 = .ok (.getfield 12, 3) := by decide +kernel
theorem dX9_seenFrom_14 : decode cX9_seenFrom 14 = .ok (.aload_n 0, 1) := by decide +kernel
theorem dX9_seenFrom_15 : decode cX9_seenFrom 15 = .ok (.getfield 47, 3) := by decide +kernel
theorem dX9_seenFrom_18 : decode cX9_seenFrom 18 = .ok (.iload_n 3, 1) := by decide +kernel
theorem dX9_seenFrom_19 : decode cX9_seenFrom 19 = .ok (.invokevirtual 273, 3) := by decide +kernel
theorem dX9_seenFrom_22 : decode cX9_seenFrom 22 = .ok (.ireturn, 1) := by decide +kernel
theorem dX9_meanDrop_0 : decode cX9_meanDrop 0 = .ok (.aload_n 0, 1) := by decide +kernel
theorem dX9_meanDrop_1 : decode cX9_meanDrop 1 = .ok (.getfield 33, 3) := by decide +kernel
theorem dX9_meanDrop_4 : decode cX9_meanDrop 4 = .ok (.aload_n 0, 1) := by decide +kernel
theorem dX9_meanDrop_5 : decode cX9_meanDrop 5 = .ok (.getfield 12, 3) := by decide +kernel
theorem dX9_meanDrop_8 : decode cX9_meanDrop 8 = .ok (.invokevirtual 106, 3) := by decide +kernel
theorem dX9_meanDrop_11 : decode cX9_meanDrop 11 = .ok (.iconst 0, 1) := by decide +kernel
theorem dX9_meanDrop_12 : decode cX9_meanDrop 12 = .ok (.istore_n 1, 1) := by decide +kernel
theorem dX9_meanDrop_13 : decode cX9_meanDrop 13 = .ok (.iconst 0, 1) := by decide +kernel
theorem dX9_meanDrop_14 : decode cX9_meanDrop 14 = .ok (.istore_n 2, 1) := by decide +kernel
theorem dX9_meanDrop_15 : decode cX9_meanDrop 15 = .ok (.iload_n 2, 1) := by decide +kernel
theorem dX9_meanDrop_16 : decode cX9_meanDrop 16 = .ok (.bipush 49, 2) := by decide +kernel
theorem dX9_meanDrop_18 : decode cX9_meanDrop 18 = .ok (.if_icmp .ge 20, 3) := by decide +kernel
theorem dX9_meanDrop_21 : decode cX9_meanDrop 21 = .ok (.iload_n 1, 1) := by decide +kernel
theorem dX9_meanDrop_22 : decode cX9_meanDrop 22 = .ok (.aload_n 0, 1) := by decide +kernel
theorem dX9_meanDrop_23 : decode cX9_meanDrop 23 = .ok (.getfield 33, 3) := by decide +kernel
theorem dX9_meanDrop_26 : decode cX9_meanDrop 26 = .ok (.iload_n 2, 1) := by decide +kernel
theorem dX9_meanDrop_27 : decode cX9_meanDrop 27 = .ok (.invokevirtual 218, 3) := by decide +kernel
theorem dX9_meanDrop_30 : decode cX9_meanDrop 30 = .ok (.iadd, 1) := by decide +kernel
theorem dX9_meanDrop_31 : decode cX9_meanDrop 31 = .ok (.istore_n 1, 1) := by decide +kernel
theorem dX9_meanDrop_32 : decode cX9_meanDrop 32 = .ok (.iinc 2 1, 3) := by decide +kernel
theorem dX9_meanDrop_35 : decode cX9_meanDrop 35 = .ok (.goto (-20), 3) := by decide +kernel
theorem dX9_meanDrop_38 : decode cX9_meanDrop 38 = .ok (.iload_n 1, 1) := by decide +kernel
theorem dX9_meanDrop_39 : decode cX9_meanDrop 39 = .ok (.i2d, 1) := by decide +kernel
theorem dX9_meanDrop_40 : decode cX9_meanDrop 40 = .ok (.ldc2_w 283, 3) := by decide +kernel
theorem dX9_meanDrop_43 : decode cX9_meanDrop 43 = .ok (.ddiv, 1) := by decide +kernel
theorem dX9_meanDrop_44 : decode cX9_meanDrop 44 = .ok (.dreturn, 1) := by decide +kernel
theorem dX9_regionsAbove_0 : decode cX9_regionsAbove 0 = .ok (.aload_n 0, 1) := by decide +kernel
theorem dX9_regionsAbove_1 : decode cX9_regionsAbove 1 = .ok (.getfield 19, 3) := by decide +kernel
theorem dX9_regionsAbove_4 : decode cX9_regionsAbove 4 = .ok (.invokevirtual 245, 3) := by decide +kernel
theorem dX9_regionsAbove_7 : decode cX9_regionsAbove 7 = .ok (.iconst 0, 1) := by decide +kernel
theorem dX9_regionsAbove_8 : decode cX9_regionsAbove 8 = .ok (.istore_n 2, 1) := by decide +kernel
theorem dX9_regionsAbove_9 : decode cX9_regionsAbove 9 = .ok (.iload_n 2, 1) := by decide +kernel
theorem dX9_regionsAbove_10 : decode cX9_regionsAbove 10 = .ok (.bipush 49, 2) := by decide +kernel
theorem dX9_regionsAbove_12 : decode cX9_regionsAbove 12 = .ok (.if_icmp .ge 29, 3) := by decide +kernel
theorem dX9_regionsAbove_15 : decode cX9_regionsAbove 15 = .ok (.aload_n 0, 1) := by decide +kernel
theorem dX9_regionsAbove_16 : decode cX9_regionsAbove 16 = .ok (.getfield 12, 3) := by decide +kernel
theorem dX9_regionsAbove_19 : decode cX9_regionsAbove 19 = .ok (.iload_n 2, 1) := by decide +kernel
theorem dX9_regionsAbove_20 : decode cX9_regionsAbove 20 = .ok (.invokevirtual 87, 3) := by decide +kernel
theorem dX9_regionsAbove_23 : decode cX9_regionsAbove 23 = .ok (.iload_n 1, 1) := by decide +kernel
theorem dX9_regionsAbove_24 : decode cX9_regionsAbove 24 = .ok (.if_icmp .le 11, 3) := by decide +kernel
theorem dX9_regionsAbove_27 : decode cX9_regionsAbove 27 = .ok (.aload_n 0, 1) := by decide +kernel
theorem dX9_regionsAbove_28 : decode cX9_regionsAbove 28 = .ok (.getfield 19, 3) := by decide +kernel
theorem dX9_regionsAbove_31 : decode cX9_regionsAbove 31 = .ok (.iload_n 2, 1) := by decide +kernel
theorem dX9_regionsAbove_32 : decode cX9_regionsAbove 32 = .ok (.invokevirtual 248, 3) := by decide +kernel
theorem dX9_regionsAbove_35 : decode cX9_regionsAbove 35 = .ok (.iinc 2 1, 3) := by decide +kernel
theorem dX9_regionsAbove_38 : decode cX9_regionsAbove 38 = .ok (.goto (-29), 3) := by decide +kernel
theorem dX9_regionsAbove_41 : decode cX9_regionsAbove 41 = .ok (.aload_n 0, 1) := by decide +kernel
theorem dX9_regionsAbove_42 : decode cX9_regionsAbove 42 = .ok (.getfield 19, 3) := by decide +kernel
theorem dX9_regionsAbove_45 : decode cX9_regionsAbove 45 = .ok (.iconst 4, 1) := by decide +kernel
theorem dX9_regionsAbove_46 : decode cX9_regionsAbove 46 = .ok (.invokevirtual 249, 3) := by decide +kernel
theorem dX9_regionsAbove_49 : decode cX9_regionsAbove 49 = .ok (.ireturn, 1) := by decide +kernel
theorem dX9_regionsNotAbove_0 : decode cX9_regionsNotAbove 0 = .ok (.aload_n 0, 1) := by decide +kernel
theorem dX9_regionsNotAbove_1 : decode cX9_regionsNotAbove 1 = .ok (.getfield 19, 3) := by decide +kernel
theorem dX9_regionsNotAbove_4 : decode cX9_regionsNotAbove 4 = .ok (.invokevirtual 245, 3) := by decide +kernel
theorem dX9_regionsNotAbove_7 : decode cX9_regionsNotAbove 7 = .ok (.iconst 0, 1) := by decide +kernel
theorem dX9_regionsNotAbove_8 : decode cX9_regionsNotAbove 8 = .ok (.istore_n 2, 1) := by decide +kernel
theorem dX9_regionsNotAbove_9 : decode cX9_regionsNotAbove 9 = .ok (.iload_n 2, 1) := by decide +kernel
theorem dX9_regionsNotAbove_10 : decode cX9_regionsNotAbove 10 = .ok (.bipush 49, 2) := by decide +kernel
theorem dX9_regionsNotAbove_12 : decode cX9_regionsNotAbove 12 = .ok (.if_icmp .ge 29, 3) := by decide +kernel
theorem dX9_regionsNotAbove_15 : decode cX9_regionsNotAbove 15 = .ok (.aload_n 0, 1) := by decide +kernel
theorem dX9_regionsNotAbove_16 : decode cX9_regionsNotAbove 16 = .ok (.getfield 12, 3) := by decide +kernel
theorem dX9_regionsNotAbove_19 : decode cX9_regionsNotAbove 19 = .ok (.iload_n 2, 1) := by decide +kernel
theorem dX9_regionsNotAbove_20 : decode cX9_regionsNotAbove 20 = .ok (.invokevirtual 87, 3) := by decide +kernel
theorem dX9_regionsNotAbove_23 : decode cX9_regionsNotAbove 23 = .ok (.iload_n 1, 1) := by decide +kernel
theorem dX9_regionsNotAbove_24 : decode cX9_regionsNotAbove 24 = .ok (.if_icmp .gt 11, 3) := by decide +kernel
theorem dX9_regionsNotAbove_27 : decode cX9_regionsNotAbove 27 = .ok (.aload_n 0, 1) := by decide +kernel
theorem dX9_regionsNotAbove_28 : decode cX9_regionsNotAbove 28 = .ok (.getfield 19, 3) := by decide +kernel
theorem dX9_regionsNotAbove_31 : decode cX9_regionsNotAbove 31 = .ok (.iload_n 2, 1) := by decide +kernel
theorem dX9_regionsNotAbove_32 : decode cX9_regionsNotAbove 32 = .ok (.invokevirtual 248, 3) := by decide +kernel
theorem dX9_regionsNotAbove_35 : decode cX9_regionsNotAbove 35 = .ok (.iinc 2 1, 3) := by decide +kernel
theorem dX9_regionsNotAbove_38 : decode cX9_regionsNotAbove 38 = .ok (.goto (-29), 3) := by decide +kernel
theorem dX9_regionsNotAbove_41 : decode cX9_regionsNotAbove 41 = .ok (.aload_n 0, 1) := by decide +kernel
theorem dX9_regionsNotAbove_42 : decode cX9_regionsNotAbove 42 = .ok (.getfield 19, 3) := by decide +kernel
theorem dX9_regionsNotAbove_45 : decode cX9_regionsNotAbove 45 = .ok (.bipush 8, 2) := by decide +kernel
theorem dX9_regionsNotAbove_47 : decode cX9_regionsNotAbove 47 = .ok (.invokevirtual 249, 3) := by decide +kernel
theorem dX9_regionsNotAbove_50 : decode cX9_regionsNotAbove 50 = .ok (.ireturn, 1) := by decide +kernel
theorem dX9_knownPoint_0 : decode cX9_knownPoint 0 = .ok (.iload_n 0, 1) := by decide +kernel
theorem dX9_knownPoint_1 : decode cX9_knownPoint 1 = .ok (.iload_n 1, 1) := by decide +kernel
theorem dX9_knownPoint_2 : decode cX9_knownPoint 2 = .ok (.invokestatic 350, 3) := by decide +kernel
theorem dX9_knownPoint_5 : decode cX9_knownPoint 5 = .ok (.istore_n 2, 1) := by decide +kernel
theorem dX9_knownPoint_6 : decode cX9_knownPoint 6 = .ok (.iload_n 2, 1) := by decide +kernel
theorem dX9_knownPoint_7 : decode cX9_knownPoint 7 = .ok (.iconst (-1), 1) := by decide +kernel
theorem dX9_knownPoint_8 : decode cX9_knownPoint 8 = .ok (.if_icmp .ne 14, 3) := by decide +kernel
theorem dX9_knownPoint_11 : decode cX9_knownPoint 11 = .ok (.new 184, 3) := by decide +kernel
theorem dX9_knownPoint_14 : decode cX9_knownPoint 14 = .ok (.dup, 1) := by decide +kernel
theorem dX9_knownPoint_15 : decode cX9_knownPoint 15 = .ok (.ldc_w 353, 3) := by decide +kernel
theorem dX9_knownPoint_18 : decode cX9_knownPoint 18 = .ok (.invokespecial 188, 3) := by decide +kernel
theorem dX9_knownPoint_21 : decode cX9_knownPoint 21 = .ok (.athrow, 1) := by decide +kernel
theorem dX9_knownPoint_22 : decode cX9_knownPoint 22 = .ok (.iload_n 2, 1) := by decide +kernel
theorem dX9_knownPoint_23 : decode cX9_knownPoint 23 = .ok (.ireturn, 1) := by decide +kernel
theorem dX9_checkLevel_0 : decode cX9_checkLevel 0 = .ok (.iload_n 0, 1) := by decide +kernel
theorem dX9_checkLevel_1 : decode cX9_checkLevel 1 = .ok (.ifCond .lt 9, 3) := by decide +kernel
theorem dX9_checkLevel_4 : decode cX9_checkLevel 4 = .ok (.iload_n 0, 1) := by decide +kernel
theorem dX9_checkLevel_5 : decode cX9_checkLevel 5 = .ok (.bipush 98, 2) := by decide +kernel
theorem dX9_checkLevel_7 : decode cX9_checkLevel 7 = .ok (.if_icmp .le 14, 3) := by decide +kernel
theorem dX9_checkLevel_10 : decode cX9_checkLevel 10 = .ok (.new 76, 3) := by decide +kernel
theorem dX9_checkLevel_13 : decode cX9_checkLevel 13 = .ok (.dup, 1) := by decide +kernel
theorem dX9_checkLevel_14 : decode cX9_checkLevel 14 = .ok (.ldc_w 355, 3) := by decide +kernel
theorem dX9_checkLevel_17 : decode cX9_checkLevel 17 = .ok (.invokespecial 80, 3) := by decide +kernel
theorem dX9_checkLevel_20 : decode cX9_checkLevel 20 = .ok (.athrow, 1) := by decide +kernel
theorem dX9_checkLevel_21 : decode cX9_checkLevel 21 = .ok (.return_, 1) := by decide +kernel
theorem dX9_pointAt_0 : decode cX9_pointAt 0 = .ok (.iload_n 0, 1) := by decide +kernel
theorem dX9_pointAt_1 : decode cX9_pointAt 1 = .ok (.ifCond .lt 19, 3) := by decide +kernel
theorem dX9_pointAt_4 : decode cX9_pointAt 4 = .ok (.iload_n 0, 1) := by decide +kernel
theorem dX9_pointAt_5 : decode cX9_pointAt 5 = .ok (.bipush 7, 2) := by decide +kernel
theorem dX9_pointAt_7 : decode cX9_pointAt 7 = .ok (.if_icmp .ge 13, 3) := by decide +kernel
theorem dX9_pointAt_10 : decode cX9_pointAt 10 = .ok (.iload_n 1, 1) := by decide +kernel
theorem dX9_pointAt_11 : decode cX9_pointAt 11 = .ok (.ifCond .lt 9, 3) := by decide +kernel
theorem dX9_pointAt_14 : decode cX9_pointAt 14 = .ok (.iload_n 1, 1) := by decide +kernel
theorem dX9_pointAt_15 : decode cX9_pointAt 15 = .ok (.bipush 7, 2) := by decide +kernel
theorem dX9_pointAt_17 : decode cX9_pointAt 17 = .ok (.if_icmp .lt 5, 3) := by decide +kernel
theorem dX9_pointAt_20 : decode cX9_pointAt 20 = .ok (.iconst (-1), 1) := by decide +kernel
theorem dX9_pointAt_21 : decode cX9_pointAt 21 = .ok (.ireturn, 1) := by decide +kernel
theorem dX9_pointAt_22 : decode cX9_pointAt 22 = .ok (.iload_n 0, 1) := by decide +kernel
theorem dX9_pointAt_23 : decode cX9_pointAt 23 = .ok (.bipush 7, 2) := by decide +kernel
theorem dX9_pointAt_25 : decode cX9_pointAt 25 = .ok (.imul, 1) := by decide +kernel
theorem dX9_pointAt_26 : decode cX9_pointAt 26 = .ok (.iload_n 1, 1) := by decide +kernel
theorem dX9_pointAt_27 : decode cX9_pointAt 27 = .ok (.iadd, 1) := by decide +kernel
theorem dX9_pointAt_28 : decode cX9_pointAt 28 = .ok (.ireturn, 1) := by decide +kernel
theorem dX9_isPoint_0 : decode cX9_isPoint 0 = .ok (.iload_n 0, 1) := by decide +kernel
theorem dX9_isPoint_1 : decode cX9_isPoint 1 = .ok (.ifCond .lt 13, 3) := by decide +kernel
theorem dX9_isPoint_4 : decode cX9_isPoint 4 = .ok (.iload_n 0, 1) := by decide +kernel
theorem dX9_isPoint_5 : decode cX9_isPoint 5 = .ok (.bipush 49, 2) := by decide +kernel
theorem dX9_isPoint_7 : decode cX9_isPoint 7 = .ok (.if_icmp .ge 7, 3) := by decide +kernel
theorem dX9_isPoint_10 : decode cX9_isPoint 10 = .ok (.iconst 1, 1) := by decide +kernel
theorem dX9_isPoint_11 : decode cX9_isPoint 11 = .ok (.goto 4, 3) := by decide +kernel
theorem dX9_isPoint_14 : decode cX9_isPoint 14 = .ok (.iconst 0, 1) := by decide +kernel
theorem dX9_isPoint_15 : decode cX9_isPoint 15 = .ok (.ireturn, 1) := by decide +kernel
theorem dX9_stepFrom_0 : decode cX9_stepFrom 0 = .ok (.iload_n 0, 1) := by decide +kernel
theorem dX9_stepFrom_1 : decode cX9_stepFrom 1 = .ok (.invokestatic 359, 3) := by decide +kernel
theorem dX9_stepFrom_4 : decode cX9_stepFrom 4 = .ok (.ifCond .eq 23, 3) := by decide +kernel
theorem dX9_stepFrom_7 : decode cX9_stepFrom 7 = .ok (.iload_n 1, 1) := by decide +kernel
theorem dX9_stepFrom_8 : decode cX9_stepFrom 8 = .ok (.ifCond .lt 19, 3) := by decide +kernel
theorem dX9_stepFrom_11 : decode cX9_stepFrom 11 = .ok (.iload_n 1, 1) := by decide +kernel
theorem dX9_stepFrom_12 : decode cX9_stepFrom 12 = .ok (.getstatic 362, 3) := by decide +kernel
theorem dX9_stepFrom_15 : decode cX9_stepFrom 15 = .ok (.arraylength, 1) := by decide +kernel
theorem dX9_stepFrom_16 : decode cX9_stepFrom 16 = .ok (.if_icmp .ge 11, 3) := by decide +kernel
theorem dX9_stepFrom_19 : decode cX9_stepFrom 19 = .ok (.iload_n 1, 1) := by decide +kernel
theorem dX9_stepFrom_20 : decode cX9_stepFrom 20 = .ok (.getstatic 365, 3) := by decide +kernel
theorem dX9_stepFrom_23 : decode cX9_stepFrom 23 = .ok (.arraylength, 1) := by decide +kernel
theorem dX9_stepFrom_24 : decode cX9_stepFrom 24 = .ok (.if_icmp .lt 5, 3) := by decide +kernel
theorem dX9_stepFrom_27 : decode cX9_stepFrom 27 = .ok (.iconst (-1), 1) := by decide +kernel
theorem dX9_stepFrom_28 : decode cX9_stepFrom 28 = .ok (.ireturn, 1) := by decide +kernel
theorem dX9_stepFrom_29 : decode cX9_stepFrom 29 = .ok (.iload_n 0, 1) := by decide +kernel
theorem dX9_stepFrom_30 : decode cX9_stepFrom 30 = .ok (.bipush 7, 2) := by decide +kernel
theorem dX9_stepFrom_32 : decode cX9_stepFrom 32 = .ok (.idiv, 1) := by decide +kernel
theorem dX9_stepFrom_33 : decode cX9_stepFrom 33 = .ok (.getstatic 362, 3) := by decide +kernel
theorem dX9_stepFrom_36 : decode cX9_stepFrom 36 = .ok (.iload_n 1, 1) := by decide +kernel
theorem dX9_stepFrom_37 : decode cX9_stepFrom 37 = .ok (.iaload, 1) := by decide +kernel
theorem dX9_stepFrom_38 : decode cX9_stepFrom 38 = .ok (.iadd, 1) := by decide +kernel
theorem dX9_stepFrom_39 : decode cX9_stepFrom 39 = .ok (.iload_n 0, 1) := by decide +kernel
theorem dX9_stepFrom_40 : decode cX9_stepFrom 40 = .ok (.bipush 7, 2) := by decide +kernel
theorem dX9_stepFrom_42 : decode cX9_stepFrom 42 = .ok (.irem, 1) := by decide +kernel
theorem dX9_stepFrom_43 : decode cX9_stepFrom 43 = .ok (.getstatic 365, 3) := by decide +kernel
theorem dX9_stepFrom_46 : decode cX9_stepFrom 46 = .ok (.iload_n 1, 1) := by decide +kernel
theorem dX9_stepFrom_47 : decode cX9_stepFrom 47 = .ok (.iaload, 1) := by decide +kernel
theorem dX9_stepFrom_48 : decode cX9_stepFrom 48 = .ok (.iadd, 1) := by decide +kernel
theorem dX9_stepFrom_49 : decode cX9_stepFrom 49 = .ok (.invokestatic 350, 3) := by decide +kernel
theorem dX9_stepFrom_52 : decode cX9_stepFrom 52 = .ok (.ireturn, 1) := by decide +kernel
theorem dX9_isBorder_0 : decode cX9_isBorder 0 = .ok (.iload_n 0, 1) := by decide +kernel
theorem dX9_isBorder_1 : decode cX9_isBorder 1 = .ok (.bipush 7, 2) := by decide +kernel
theorem dX9_isBorder_3 : decode cX9_isBorder 3 = .ok (.idiv, 1) := by decide +kernel
theorem dX9_isBorder_4 : decode cX9_isBorder 4 = .ok (.istore_n 1, 1) := by decide +kernel
theorem dX9_isBorder_5 : decode cX9_isBorder 5 = .ok (.iload_n 0, 1) := by decide +kernel
theorem dX9_isBorder_6 : decode cX9_isBorder 6 = .ok (.bipush 7, 2) := by decide +kernel
theorem dX9_isBorder_8 : decode cX9_isBorder 8 = .ok (.irem, 1) := by decide +kernel
theorem dX9_isBorder_9 : decode cX9_isBorder 9 = .ok (.istore_n 2, 1) := by decide +kernel
theorem dX9_isBorder_10 : decode cX9_isBorder 10 = .ok (.iload_n 1, 1) := by decide +kernel
theorem dX9_isBorder_11 : decode cX9_isBorder 11 = .ok (.ifCond .eq 19, 3) := by decide +kernel
theorem dX9_isBorder_14 : decode cX9_isBorder 14 = .ok (.iload_n 1, 1) := by decide +kernel
theorem dX9_isBorder_15 : decode cX9_isBorder 15 = .ok (.bipush 6, 2) := by decide +kernel
theorem dX9_isBorder_17 : decode cX9_isBorder 17 = .ok (.if_icmp .eq 13, 3) := by decide +kernel
theorem dX9_isBorder_20 : decode cX9_isBorder 20 = .ok (.iload_n 2, 1) := by decide +kernel
theorem dX9_isBorder_21 : decode cX9_isBorder 21 = .ok (.ifCond .eq 9, 3) := by decide +kernel
theorem dX9_isBorder_24 : decode cX9_isBorder 24 = .ok (.iload_n 2, 1) := by decide +kernel
theorem dX9_isBorder_25 : decode cX9_isBorder 25 = .ok (.bipush 6, 2) := by decide +kernel
theorem dX9_isBorder_27 : decode cX9_isBorder 27 = .ok (.if_icmp .ne 7, 3) := by decide +kernel
theorem dX9_isBorder_30 : decode cX9_isBorder 30 = .ok (.iconst 1, 1) := by decide +kernel
theorem dX9_isBorder_31 : decode cX9_isBorder 31 = .ok (.goto 4, 3) := by decide +kernel
theorem dX9_isBorder_34 : decode cX9_isBorder 34 = .ok (.iconst 0, 1) := by decide +kernel
theorem dX9_isBorder_35 : decode cX9_isBorder 35 = .ok (.ireturn, 1) := by decide +kernel
theorem dJ9_floorDiv_7cf53_0 : decode cJ9_floorDiv_7cf53 0 = .ok (.iload_n 0, 1) := by decide +kernel
theorem dJ9_floorDiv_7cf53_1 : decode cJ9_floorDiv_7cf53 1 = .ok (.iload_n 1, 1) := by decide +kernel
theorem dJ9_floorDiv_7cf53_2 : decode cJ9_floorDiv_7cf53 2 = .ok (.idiv, 1) := by decide +kernel
theorem dJ9_floorDiv_7cf53_3 : decode cJ9_floorDiv_7cf53 3 = .ok (.istore_n 2, 1) := by decide +kernel
theorem dJ9_floorDiv_7cf53_4 : decode cJ9_floorDiv_7cf53 4 = .ok (.iload_n 0, 1) := by decide +kernel
theorem dJ9_floorDiv_7cf53_5 : decode cJ9_floorDiv_7cf53 5 = .ok (.iload_n 1, 1) := by decide +kernel
theorem dJ9_floorDiv_7cf53_6 : decode cJ9_floorDiv_7cf53 6 = .ok (.ixor, 1) := by decide +kernel
theorem dJ9_floorDiv_7cf53_7 : decode cJ9_floorDiv_7cf53 7 = .ok (.ifCond .ge 14, 3) := by decide +kernel
theorem dJ9_floorDiv_7cf53_10 : decode cJ9_floorDiv_7cf53 10 = .ok (.iload_n 2, 1) := by decide +kernel
theorem dJ9_floorDiv_7cf53_11 : decode cJ9_floorDiv_7cf53 11 = .ok (.iload_n 1, 1) := by decide +kernel
theorem dJ9_floorDiv_7cf53_12 : decode cJ9_floorDiv_7cf53 12 = .ok (.imul, 1) := by decide +kernel
theorem dJ9_floorDiv_7cf53_13 : decode cJ9_floorDiv_7cf53 13 = .ok (.iload_n 0, 1) := by decide +kernel
theorem dJ9_floorDiv_7cf53_14 : decode cJ9_floorDiv_7cf53 14 = .ok (.if_icmp .eq 7, 3) := by decide +kernel
theorem dJ9_floorDiv_7cf53_17 : decode cJ9_floorDiv_7cf53 17 = .ok (.iload_n 2, 1) := by decide +kernel
theorem dJ9_floorDiv_7cf53_18 : decode cJ9_floorDiv_7cf53 18 = .ok (.iconst 1, 1) := by decide +kernel
theorem dJ9_floorDiv_7cf53_19 : decode cJ9_floorDiv_7cf53 19 = .ok (.isub, 1) := by decide +kernel
theorem dJ9_floorDiv_7cf53_20 : decode cJ9_floorDiv_7cf53 20 = .ok (.ireturn, 1) := by decide +kernel
theorem dJ9_floorDiv_7cf53_21 : decode cJ9_floorDiv_7cf53 21 = .ok (.iload_n 2, 1) := by decide +kernel
theorem dJ9_floorDiv_7cf53_22 : decode cJ9_floorDiv_7cf53 22 = .ok (.ireturn, 1) := by decide +kernel
theorem dJ9_abs_0f7a4_0 : decode cJ9_abs_0f7a4 0 = .ok (.iload_n 0, 1) := by decide +kernel
theorem dJ9_abs_0f7a4_1 : decode cJ9_abs_0f7a4 1 = .ok (.ifCond .ge 8, 3) := by decide +kernel
theorem dJ9_abs_0f7a4_4 : decode cJ9_abs_0f7a4 4 = .ok (.iload_n 0, 1) := by decide +kernel
theorem dJ9_abs_0f7a4_5 : decode cJ9_abs_0f7a4 5 = .ok (.ineg, 1) := by decide +kernel
theorem dJ9_abs_0f7a4_6 : decode cJ9_abs_0f7a4 6 = .ok (.goto 4, 3) := by decide +kernel
theorem dJ9_abs_0f7a4_9 : decode cJ9_abs_0f7a4 9 = .ok (.iload_n 0, 1) := by decide +kernel
theorem dJ9_abs_0f7a4_10 : decode cJ9_abs_0f7a4 10 = .ok (.ireturn, 1) := by decide +kernel
theorem dJ9_max_7cf53_0 : decode cJ9_max_7cf53 0 = .ok (.iload_n 0, 1) := by decide +kernel
theorem dJ9_max_7cf53_1 : decode cJ9_max_7cf53 1 = .ok (.iload_n 1, 1) := by decide +kernel
theorem dJ9_max_7cf53_2 : decode cJ9_max_7cf53 2 = .ok (.if_icmp .lt 7, 3) := by decide +kernel
theorem dJ9_max_7cf53_5 : decode cJ9_max_7cf53 5 = .ok (.iload_n 0, 1) := by decide +kernel
theorem dJ9_max_7cf53_6 : decode cJ9_max_7cf53 6 = .ok (.goto 4, 3) := by decide +kernel
theorem dJ9_max_7cf53_9 : decode cJ9_max_7cf53 9 = .ok (.iload_n 1, 1) := by decide +kernel
theorem dJ9_max_7cf53_10 : decode cJ9_max_7cf53 10 = .ok (.ireturn, 1) := by decide +kernel
theorem dJ9_min_7cf53_0 : decode cJ9_min_7cf53 0 = .ok (.iload_n 0, 1) := by decide +kernel
theorem dJ9_min_7cf53_1 : decode cJ9_min_7cf53 1 = .ok (.iload_n 1, 1) := by decide +kernel
theorem dJ9_min_7cf53_2 : decode cJ9_min_7cf53 2 = .ok (.if_icmp .gt 7, 3) := by decide +kernel
theorem dJ9_min_7cf53_5 : decode cJ9_min_7cf53 5 = .ok (.iload_n 0, 1) := by decide +kernel
theorem dJ9_min_7cf53_6 : decode cJ9_min_7cf53 6 = .ok (.goto 4, 3) := by decide +kernel
theorem dJ9_min_7cf53_9 : decode cJ9_min_7cf53 9 = .ok (.iload_n 1, 1) := by decide +kernel
theorem dJ9_min_7cf53_10 : decode cJ9_min_7cf53 10 = .ok (.ireturn, 1) := by decide +kernel
theorem dJ7_fill_53178_0 : decode cJ7_fill_53178 0 = .ok (.iconst 0, 1) := by decide +kernel
theorem dJ7_fill_53178_1 : decode cJ7_fill_53178 1 = .ok (.istore_n 2, 1) := by decide +kernel
theorem dJ7_fill_53178_2 : decode cJ7_fill_53178 2 = .ok (.aload_n 0, 1) := by decide +kernel
theorem dJ7_fill_53178_3 : decode cJ7_fill_53178 3 = .ok (.arraylength, 1) := by decide +kernel
theorem dJ7_fill_53178_4 : decode cJ7_fill_53178 4 = .ok (.istore_n 3, 1) := by decide +kernel
theorem dJ7_fill_53178_5 : decode cJ7_fill_53178 5 = .ok (.iload_n 2, 1) := by decide +kernel
theorem dJ7_fill_53178_6 : decode cJ7_fill_53178 6 = .ok (.iload_n 3, 1) := by decide +kernel
theorem dJ7_fill_53178_7 : decode cJ7_fill_53178 7 = .ok (.if_icmp .ge 13, 3) := by decide +kernel
theorem dJ7_fill_53178_10 : decode cJ7_fill_53178 10 = .ok (.aload_n 0, 1) := by decide +kernel
theorem dJ7_fill_53178_11 : decode cJ7_fill_53178 11 = .ok (.iload_n 2, 1) := by decide +kernel
theorem dJ7_fill_53178_12 : decode cJ7_fill_53178 12 = .ok (.iload_n 1, 1) := by decide +kernel
theorem dJ7_fill_53178_13 : decode cJ7_fill_53178 13 = .ok (.iastore, 1) := by decide +kernel
theorem dJ7_fill_53178_14 : decode cJ7_fill_53178 14 = .ok (.iinc 2 1, 3) := by decide +kernel
theorem dJ7_fill_53178_17 : decode cJ7_fill_53178 17 = .ok (.goto (-12), 3) := by decide +kernel
theorem dJ7_fill_53178_20 : decode cJ7_fill_53178 20 = .ok (.return_, 1) := by decide +kernel
