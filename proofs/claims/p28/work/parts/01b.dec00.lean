theorem dX2_init_0 : decode cX2_init 0 = .ok (.aload_n 0, 1) := by decide +kernel
theorem dX2_init_1 : decode cX2_init 1 = .ok (.invokespecial 3, 3) := by decide +kernel
theorem dX2_init_4 : decode cX2_init 4 = .ok (.aload_n 0, 1) := by decide +kernel
theorem dX2_init_5 : decode cX2_init 5 = .ok (.bipush 25, 2) := by decide +kernel
theorem dX2_init_7 : decode cX2_init 7 = .ok (.newarray .int, 2) := by decide +kernel
theorem dX2_init_9 : decode cX2_init 9 = .ok (.putfield 9, 3) := by decide +kernel
theorem dX2_init_12 : decode cX2_init 12 = .ok (.return_, 1) := by decide +kernel
theorem dX2_giveAll_0 : decode cX2_giveAll 0 = .ok (.aload_n 0, 1) := by decide +kernel
theorem dX2_giveAll_1 : decode cX2_giveAll 1 = .ok (.iload 4, 2) := by decide +kernel
theorem dX2_giveAll_3 : decode cX2_giveAll 3 = .ok (.putfield 15, 3) := by decide +kernel
theorem dX2_giveAll_6 : decode cX2_giveAll 6 = .ok (.aload_n 1, 1) := by decide +kernel
theorem dX2_giveAll_7 : decode cX2_giveAll 7 = .ok (.aload_n 2, 1) := by decide +kernel
theorem dX2_giveAll_8 : decode cX2_giveAll 8 = .ok (.invokevirtual 19, 3) := by decide +kernel
theorem dX2_giveAll_11 : decode cX2_giveAll 11 = .ok (.aload_n 1, 1) := by decide +kernel
theorem dX2_giveAll_12 : decode cX2_giveAll 12 = .ok (.getfield 25, 3) := by decide +kernel
theorem dX2_giveAll_15 : decode cX2_giveAll 15 = .ok (.iconst 1, 1) := by decide +kernel
theorem dX2_giveAll_16 : decode cX2_giveAll 16 = .ok (.if_icmp .ge 5, 3) := by decide +kernel
theorem dX2_giveAll_19 : decode cX2_giveAll 19 = .ok (.iconst 0, 1) := by decide +kernel
theorem dX2_giveAll_20 : decode cX2_giveAll 20 = .ok (.ireturn, 1) := by decide +kernel
theorem dX2_giveAll_21 : decode cX2_giveAll 21 = .ok (.iconst 0, 1) := by decide +kernel
theorem dX2_giveAll_22 : decode cX2_giveAll 22 = .ok (.istore 5, 2) := by decide +kernel
theorem dX2_giveAll_24 : decode cX2_giveAll 24 = .ok (.iload 5, 2) := by decide +kernel
theorem dX2_giveAll_26 : decode cX2_giveAll 26 = .ok (.aload_n 1, 1) := by decide +kernel
theorem dX2_giveAll_27 : decode cX2_giveAll 27 = .ok (.invokevirtual 28, 3) := by decide +kernel
theorem dX2_giveAll_30 : decode cX2_giveAll 30 = .ok (.if_icmp .ge 27, 3) := by decide +kernel
theorem dX2_giveAll_33 : decode cX2_giveAll 33 = .ok (.aload_n 0, 1) := by decide +kernel
theorem dX2_giveAll_34 : decode cX2_giveAll 34 = .ok (.getfield 9, 3) := by decide +kernel
theorem dX2_giveAll_37 : decode cX2_giveAll 37 = .ok (.iload 5, 2) := by decide +kernel
theorem dX2_giveAll_39 : decode cX2_giveAll 39 = .ok (.iconst 1, 1) := by decide +kernel
theorem dX2_giveAll_40 : decode cX2_giveAll 40 = .ok (.aload_n 0, 1) := by decide +kernel
theorem dX2_giveAll_41 : decode cX2_giveAll 41 = .ok (.invokevirtual 32, 3) := by decide +kernel
theorem dX2_giveAll_44 : decode cX2_giveAll 44 = .ok (.aload_n 1, 1) := by decide +kernel
theorem dX2_giveAll_45 : decode cX2_giveAll 45 = .ok (.getfield 25, 3) := by decide +kernel
theorem dX2_giveAll_48 : decode cX2_giveAll 48 = .ok (.irem, 1) := by decide +kernel
theorem dX2_giveAll_49 : decode cX2_giveAll 49 = .ok (.iadd, 1) := by decide +kernel
theorem dX2_giveAll_50 : decode cX2_giveAll 50 = .ok (.iastore, 1) := by decide +kernel
theorem dX2_giveAll_51 : decode cX2_giveAll 51 = .ok (.iinc 5 1, 3) := by decide +kernel
theorem dX2_giveAll_54 : decode cX2_giveAll 54 = .ok (.goto (-30), 3) := by decide +kernel
theorem dX2_giveAll_57 : decode cX2_giveAll 57 = .ok (.aload_n 3, 1) := by decide +kernel
theorem dX2_giveAll_58 : decode cX2_giveAll 58 = .ok (.aload_n 1, 1) := by decide +kernel
theorem dX2_giveAll_59 : decode cX2_giveAll 59 = .ok (.aload_n 0, 1) := by decide +kernel
theorem dX2_giveAll_60 : decode cX2_giveAll 60 = .ok (.getfield 9, 3) := by decide +kernel
theorem dX2_giveAll_63 : decode cX2_giveAll 63 = .ok (.invokevirtual 35, 3) := by decide +kernel
theorem dX2_giveAll_66 : decode cX2_giveAll 66 = .ok (.ifCond .ne 5, 3) := by decide +kernel
theorem dX2_giveAll_69 : decode cX2_giveAll 69 = .ok (.iconst 0, 1) := by decide +kernel
theorem dX2_giveAll_70 : decode cX2_giveAll 70 = .ok (.ireturn, 1) := by decide +kernel
theorem dX2_giveAll_71 : decode cX2_giveAll 71 = .ok (.iconst 0, 1) := by decide +kernel
theorem dX2_giveAll_72 : decode cX2_giveAll 72 = .ok (.istore 5, 2) := by decide +kernel
theorem dX2_giveAll_74 : decode cX2_giveAll 74 = .ok (.iload 5, 2) := by decide +kernel
theorem dX2_giveAll_76 : decode cX2_giveAll 76 = .ok (.aload_n 1, 1) := by decide +kernel
theorem dX2_giveAll_77 : decode cX2_giveAll 77 = .ok (.invokevirtual 28, 3) := by decide +kernel
theorem dX2_giveAll_80 : decode cX2_giveAll 80 = .ok (.if_icmp .ge 24, 3) := by decide +kernel
theorem dX2_giveAll_83 : decode cX2_giveAll 83 = .ok (.aload_n 1, 1) := by decide +kernel
theorem dX2_giveAll_84 : decode cX2_giveAll 84 = .ok (.iload 5, 2) := by decide +kernel
theorem dX2_giveAll_86 : decode cX2_giveAll 86 = .ok (.aload_n 3, 1) := by decide +kernel
theorem dX2_giveAll_87 : decode cX2_giveAll 87 = .ok (.getfield 41, 3) := by decide +kernel
theorem dX2_giveAll_90 : decode cX2_giveAll 90 = .ok (.iconst 0, 1) := by decide +kernel
theorem dX2_giveAll_91 : decode cX2_giveAll 91 = .ok (.aaload, 1) := by decide +kernel
theorem dX2_giveAll_92 : decode cX2_giveAll 92 = .ok (.iload 5, 2) := by decide +kernel
theorem dX2_giveAll_94 : decode cX2_giveAll 94 = .ok (.iaload, 1) := by decide +kernel
theorem dX2_giveAll_95 : decode cX2_giveAll 95 = .ok (.invokevirtual 45, 3) := by decide +kernel
theorem dX2_giveAll_98 : decode cX2_giveAll 98 = .ok (.iinc 5 1, 3) := by decide +kernel
theorem dX2_giveAll_101 : decode cX2_giveAll 101 = .ok (.goto (-27), 3) := by decide +kernel
theorem dX2_giveAll_104 : decode cX2_giveAll 104 = .ok (.iconst 1, 1) := by decide +kernel
theorem dX2_giveAll_105 : decode cX2_giveAll 105 = .ok (.ireturn, 1) := by decide +kernel
theorem dX2_dropGivens_0 : decode cX2_dropGivens 0 = .ok (.aload_n 1, 1) := by decide +kernel
theorem dX2_dropGivens_1 : decode cX2_dropGivens 1 = .ok (.invokevirtual 28, 3) := by decide +kernel
theorem dX2_dropGivens_4 : decode cX2_dropGivens 4 = .ok (.istore_n 3, 1) := by decide +kernel
theorem dX2_dropGivens_5 : decode cX2_dropGivens 5 = .ok (.iload_n 3, 1) := by decide +kernel
theorem dX2_dropGivens_6 : decode cX2_dropGivens 6 = .ok (.iconst 1, 1) := by decide +kernel
theorem dX2_dropGivens_7 : decode cX2_dropGivens 7 = .ok (.if_icmp .ge 4, 3) := by decide +kernel
theorem dX2_dropGivens_10 : decode cX2_dropGivens 10 = .ok (.return_, 1) := by decide +kernel
theorem dX2_dropGivens_11 : decode cX2_dropGivens 11 = .ok (.aload_n 0, 1) := by decide +kernel
theorem dX2_dropGivens_12 : decode cX2_dropGivens 12 = .ok (.invokevirtual 32, 3) := by decide +kernel
theorem dX2_dropGivens_15 : decode cX2_dropGivens 15 = .ok (.iload_n 3, 1) := by decide +kernel
theorem dX2_dropGivens_16 : decode cX2_dropGivens 16 = .ok (.irem, 1) := by decide +kernel
theorem dX2_dropGivens_17 : decode cX2_dropGivens 17 = .ok (.istore 4, 2) := by decide +kernel
theorem dX2_dropGivens_19 : decode cX2_dropGivens 19 = .ok (.iconst 0, 1) := by decide +kernel
theorem dX2_dropGivens_20 : decode cX2_dropGivens 20 = .ok (.istore 5, 2) := by decide +kernel
theorem dX2_dropGivens_22 : decode cX2_dropGivens 22 = .ok (.iload 5, 2) := by decide +kernel
theorem dX2_dropGivens_24 : decode cX2_dropGivens 24 = .ok (.iload_n 3, 1) := by decide +kernel
theorem dX2_dropGivens_25 : decode cX2_dropGivens 25 = .ok (.if_icmp .ge 48, 3) := by decide +kernel
theorem dX2_dropGivens_28 : decode cX2_dropGivens 28 = .ok (.aload_n 1, 1) := by decide +kernel
theorem dX2_dropGivens_29 : decode cX2_dropGivens 29 = .ok (.iload 4, 2) := by decide +kernel
theorem dX2_dropGivens_31 : decode cX2_dropGivens 31 = .ok (.invokevirtual 49, 3) := by decide +kernel
theorem dX2_dropGivens_34 : decode cX2_dropGivens 34 = .ok (.istore 6, 2) := by decide +kernel
theorem dX2_dropGivens_36 : decode cX2_dropGivens 36 = .ok (.iload 6, 2) := by decide +kernel
theorem dX2_dropGivens_38 : decode cX2_dropGivens 38 = .ok (.iconst (-1), 1) := by decide +kernel
theorem dX2_dropGivens_39 : decode cX2_dropGivens 39 = .ok (.if_icmp .eq 19, 3) := by decide +kernel
theorem dX2_dropGivens_42 : decode cX2_dropGivens 42 = .ok (.aload_n 2, 1) := by decide +kernel
theorem dX2_dropGivens_43 : decode cX2_dropGivens 43 = .ok (.aload_n 1, 1) := by decide +kernel
theorem dX2_dropGivens_44 : decode cX2_dropGivens 44 = .ok (.iload 6, 2) := by decide +kernel
theorem dX2_dropGivens_46 : decode cX2_dropGivens 46 = .ok (.invokevirtual 53, 3) := by decide +kernel
theorem dX2_dropGivens_49 : decode cX2_dropGivens 49 = .ok (.ifCond .eq 9, 3) := by decide +kernel
theorem dX2_dropGivens_52 : decode cX2_dropGivens 52 = .ok (.aload_n 1, 1) := by decide +kernel
theorem dX2_dropGivens_53 : decode cX2_dropGivens 53 = .ok (.iload 6, 2) := by decide +kernel
theorem dX2_dropGivens_55 : decode cX2_dropGivens 55 = .ok (.invokevirtual 57, 3) := by decide +kernel
theorem dX2_dropGivens_58 : decode cX2_dropGivens 58 = .ok (.iload 4, 2) := by decide +kernel
theorem dX2_dropGivens_60 : decode cX2_dropGivens 60 = .ok (.bipush 7, 2) := by decide +kernel
theorem dX2_dropGivens_62 : decode cX2_dropGivens 62 = .ok (.iadd, 1) := by decide +kernel
theorem dX2_dropGivens_63 : decode cX2_dropGivens 63 = .ok (.iload_n 3, 1) := by decide +kernel
theorem dX2_dropGivens_64 : decode cX2_dropGivens 64 = .ok (.irem, 1) := by decide +kernel
theorem dX2_dropGivens_65 : decode cX2_dropGivens 65 = .ok (.istore 4, 2) := by decide +kernel
theorem dX2_dropGivens_67 : decode cX2_dropGivens 67 = .ok (.iinc 5 1, 3) := by decide +kernel
theorem dX2_dropGivens_70 : decode cX2_dropGivens 70 = .ok (.goto (-48), 3) := by decide +kernel
theorem dX2_dropGivens_73 : decode cX2_dropGivens 73 = .ok (.return_, 1) := by decide +kernel
theorem dX2_draw_0 : decode cX2_draw 0 = .ok (.aload_n 0, 1) := by decide +kernel
theorem dX2_draw_1 : decode cX2_draw 1 = .ok (.aload_n 0, 1) := by decide +kernel
theorem dX2_draw_2 : decode cX2_draw 2 = .ok (.getfield 15, 3) := by decide +kernel
theorem dX2_draw_5 : decode cX2_draw 5 = .ok (.sipush 1103, 3) := by decide +kernel
theorem dX2_draw_8 : decode cX2_draw 8 = .ok (.imul, 1) := by decide +kernel
theorem dX2_draw_9 : decode cX2_draw 9 = .ok (.sipush 12345, 3) := by decide +kernel
theorem dX2_draw_12 : decode cX2_draw 12 = .ok (.iadd, 1) := by decide +kernel
theorem dX2_draw_13 : decode cX2_draw 13 = .ok (.ldc 61, 2) := by decide +kernel
theorem dX2_draw_15 : decode cX2_draw 15 = .ok (.irem, 1) := by decide +kernel
theorem dX2_draw_16 : decode cX2_draw 16 = .ok (.putfield 15, 3) := by decide +kernel
theorem dX2_draw_19 : decode cX2_draw 19 = .ok (.aload_n 0, 1) := by decide +kernel
theorem dX2_draw_20 : decode cX2_draw 20 = .ok (.getfield 15, 3) := by decide +kernel
theorem dX2_draw_23 : decode cX2_draw 23 = .ok (.bipush 16, 2) := by decide +kernel
theorem dX2_draw_25 : decode cX2_draw 25 = .ok (.idiv, 1) := by decide +kernel
theorem dX2_draw_26 : decode cX2_draw 26 = .ok (.ireturn, 1) := by decide +kernel
theorem dX3_init_0 : decode cX3_init 0 = .ok (.aload_n 0, 1) := by decide +kernel
theorem dX3_init_1 : decode cX3_init 1 = .ok (.invokespecial 3, 3) := by decide +kernel
theorem dX3_init_4 : decode cX3_init 4 = .ok (.aload_n 0, 1) := by decide +kernel
theorem dX3_init_5 : decode cX3_init 5 = .ok (.sipush 1980, 3) := by decide +kernel
theorem dX3_init_8 : decode cX3_init 8 = .ok (.newarray .int, 2) := by decide +kernel
theorem dX3_init_10 : decode cX3_init 10 = .ok (.putfield 9, 3) := by decide +kernel
theorem dX3_init_13 : decode cX3_init 13 = .ok (.return_, 1) := by decide +kernel
theorem dX3_show_0 : decode cX3_show 0 = .ok (.aload_n 0, 1) := by decide +kernel
theorem dX3_show_1 : decode cX3_show 1 = .ok (.iconst 0, 1) := by decide +kernel
theorem dX3_show_2 : decode cX3_show 2 = .ok (.putfield 15, 3) := by decide +kernel
theorem dX3_show_5 : decode cX3_show 5 = .ok (.aload_n 0, 1) := by decide +kernel
theorem dX3_show_6 : decode cX3_show 6 = .ok (.ldc 19, 2) := by decide +kernel
theorem dX3_show_8 : decode cX3_show 8 = .ok (.invokevirtual 21, 3) := by decide +kernel
theorem dX3_show_11 : decode cX3_show 11 = .ok (.aload_n 0, 1) := by decide +kernel
theorem dX3_show_12 : decode cX3_show 12 = .ok (.aload_n 1, 1) := by decide +kernel
theorem dX3_show_13 : decode cX3_show 13 = .ok (.getfield 25, 3) := by decide +kernel
theorem dX3_show_16 : decode cX3_show 16 = .ok (.invokevirtual 30, 3) := by decide +kernel
theorem dX3_show_19 : decode cX3_show 19 = .ok (.aload_n 0, 1) := by decide +kernel
theorem dX3_show_20 : decode cX3_show 20 = .ok (.aload_n 1, 1) := by decide +kernel
theorem dX3_show_21 : decode cX3_show 21 = .ok (.getfield 34, 3) := by decide +kernel
theorem dX3_show_24 : decode cX3_show 24 = .ok (.invokevirtual 30, 3) := by decide +kernel
theorem dX3_show_27 : decode cX3_show 27 = .ok (.aload_n 0, 1) := by decide +kernel
theorem dX3_show_28 : decode cX3_show 28 = .ok (.aload_n 1, 1) := by decide +kernel
theorem dX3_show_29 : decode cX3_show 29 = .ok (.getfield 37, 3) := by decide +kernel
theorem dX3_show_32 : decode cX3_show 32 = .ok (.invokevirtual 30, 3) := by decide +kernel
theorem dX3_show_35 : decode cX3_show 35 = .ok (.aload_n 0, 1) := by decide +kernel
theorem dX3_show_36 : decode cX3_show 36 = .ok (.bipush 59, 2) := by decide +kernel
theorem dX3_show_38 : decode cX3_show 38 = .ok (.invokevirtual 40, 3) := by decide +kernel
theorem dX3_show_41 : decode cX3_show 41 = .ok (.iconst 0, 1) := by decide +kernel
theorem dX3_show_42 : decode cX3_show 42 = .ok (.istore_n 2, 1) := by decide +kernel
theorem dX3_show_43 : decode cX3_show 43 = .ok (.iload_n 2, 1) := by decide +kernel
theorem dX3_show_44 : decode cX3_show 44 = .ok (.aload_n 1, 1) := by decide +kernel
theorem dX3_show_45 : decode cX3_show 45 = .ok (.getfield 43, 3) := by decide +kernel
theorem dX3_show_48 : decode cX3_show 48 = .ok (.if_icmp .ge 29, 3) := by decide +kernel
theorem dX3_show_51 : decode cX3_show 51 = .ok (.aload_n 0, 1) := by decide +kernel
theorem dX3_show_52 : decode cX3_show 52 = .ok (.aload_n 1, 1) := by decide +kernel
theorem dX3_show_53 : decode cX3_show 53 = .ok (.getfield 46, 3) := by decide +kernel
theorem dX3_show_56 : decode cX3_show 56 = .ok (.iload_n 2, 1) := by decide +kernel
theorem dX3_show_57 : decode cX3_show 57 = .ok (.aaload, 1) := by decide +kernel
theorem dX3_show_58 : decode cX3_show 58 = .ok (.aload_n 1, 1) := by decide +kernel
theorem dX3_show_59 : decode cX3_show 59 = .ok (.getfield 25, 3) := by decide +kernel
theorem dX3_show_62 : decode cX3_show 62 = .ok (.invokevirtual 50, 3) := by decide +kernel
theorem dX3_show_65 : decode cX3_show 65 = .ok (.aload_n 0, 1) := by decide +kernel
theorem dX3_show_66 : decode cX3_show 66 = .ok (.bipush 59, 2) := by decide +kernel
theorem dX3_show_68 : decode cX3_show 68 = .ok (.invokevirtual 40, 3) := by decide +kernel
theorem dX3_show_71 : decode cX3_show 71 = .ok (.iinc 2 1, 3) := by decide +kernel
theorem dX3_show_74 : decode cX3_show 74 = .ok (.goto (-31), 3) := by decide +kernel
theorem dX3_show_77 : decode cX3_show 77 = .ok (.return_, 1) := by decide +kernel
theorem dX3_addRule_0 : decode cX3_addRule 0 = .ok (.aload_n 0, 1) := by decide +kernel
theorem dX3_addRule_1 : decode cX3_addRule 1 = .ok (.aload_n 1, 1) := by decide +kernel
theorem dX3_addRule_2 : decode cX3_addRule 2 = .ok (.getfield 54, 3) := by decide +kernel
theorem dX3_addRule_5 : decode cX3_addRule 5 = .ok (.getfield 60, 3) := by decide +kernel
theorem dX3_addRule_8 : decode cX3_addRule 8 = .ok (.invokevirtual 21, 3) := by decide +kernel
theorem dX3_addRule_11 : decode cX3_addRule 11 = .ok (.aload_n 1, 1) := by decide +kernel
theorem dX3_addRule_12 : decode cX3_addRule 12 = .ok (.getfield 54, 3) := by decide +kernel
theorem dX3_addRule_15 : decode cX3_addRule 15 = .ok (.getfield 66, 3) := by decide +kernel
theorem dX3_addRule_18 : decode cX3_addRule 18 = .ok (.ifCond .le 11, 3) := by decide +kernel
theorem dX3_addRule_21 : decode cX3_addRule 21 = .ok (.aload_n 0, 1) := by decide +kernel
theorem dX3_addRule_22 : decode cX3_addRule 22 = .ok (.aload_n 1, 1) := by decide +kernel
theorem dX3_addRule_23 : decode cX3_addRule 23 = .ok (.getfield 69, 3) := by decide +kernel
theorem dX3_addRule_26 : decode cX3_addRule 26 = .ok (.invokevirtual 30, 3) := by decide +kernel
theorem dX3_addRule_29 : decode cX3_addRule 29 = .ok (.aload_n 1, 1) := by decide +kernel
theorem dX3_addRule_30 : decode cX3_addRule 30 = .ok (.getfield 54, 3) := by decide +kernel
theorem dX3_addRule_33 : decode cX3_addRule 33 = .ok (.getfield 66, 3) := by decide +kernel
theorem dX3_addRule_36 : decode cX3_addRule 36 = .ok (.iconst 1, 1) := by decide +kernel
theorem dX3_addRule_37 : decode cX3_addRule 37 = .ok (.if_icmp .le 11, 3) := by decide +kernel
theorem dX3_addRule_40 : decode cX3_addRule 40 = .ok (.aload_n 0, 1) := by decide +kernel
theorem dX3_addRule_41 : decode cX3_addRule 41 = .ok (.aload_n 1, 1) := by decide +kernel
theorem dX3_addRule_42 : decode cX3_addRule 42 = .ok (.getfield 72, 3) := by decide +kernel
theorem dX3_addRule_45 : decode cX3_addRule 45 = .ok (.invokevirtual 30, 3) := by decide +kernel
theorem dX3_addRule_48 : decode cX3_addRule 48 = .ok (.iconst 0, 1) := by decide +kernel
theorem dX3_addRule_49 : decode cX3_addRule 49 = .ok (.istore_n 3, 1) := by decide +kernel
theorem dX3_addRule_50 : decode cX3_addRule 50 = .ok (.iload_n 3, 1) := by decide +kernel
theorem dX3_addRule_51 : decode cX3_addRule 51 = .ok (.aload_n 1, 1) := by decide +kernel
theorem dX3_addRule_52 : decode cX3_addRule 52 = .ok (.getfield 75, 3) := by decide +kernel
theorem dX3_addRule_55 : decode cX3_addRule 55 = .ok (.if_icmp .ge 20, 3) := by decide +kernel
theorem dX3_addRule_58 : decode cX3_addRule 58 = .ok (.aload_n 0, 1) := by decide +kernel
theorem dX3_addRule_59 : decode cX3_addRule 59 = .ok (.aload_n 1, 1) := by decide +kernel
theorem dX3_addRule_60 : decode cX3_addRule 60 = .ok (.getfield 78, 3) := by decide +kernel
theorem dX3_addRule_63 : decode cX3_addRule 63 = .ok (.iload_n 3, 1) := by decide +kernel
theorem dX3_addRule_64 : decode cX3_addRule 64 = .ok (.iaload, 1) := by decide +kernel
theorem dX3_addRule_65 : decode cX3_addRule 65 = .ok (.iload_n 2, 1) := by decide +kernel
theorem dX3_addRule_66 : decode cX3_addRule 66 = .ok (.invokevirtual 81, 3) := by decide +kernel
theorem dX3_addRule_69 : decode cX3_addRule 69 = .ok (.iinc 3 1, 3) := by decide +kernel
theorem dX3_addRule_72 : decode cX3_addRule 72 = .ok (.goto (-22), 3) := by decide +kernel
theorem dX3_addRule_75 : decode cX3_addRule 75 = .ok (.aload_n 1, 1) := by decide +kernel
theorem dX3_addRule_76 : decode cX3_addRule 76 = .ok (.getfield 54, 3) := by decide +kernel
theorem dX3_addRule_79 : decode cX3_addRule 79 = .ok (.getstatic 85, 3) := by decide +kernel
theorem dX3_addRule_82 : decode cX3_addRule 82 = .ok (.if_acmp .ne 11, 3) := by decide +kernel
theorem dX3_addRule_85 : decode cX3_addRule 85 = .ok (.aload_n 0, 1) := by decide +kernel
theorem dX3_addRule_86 : decode cX3_addRule 86 = .ok (.aload_n 1, 1) := by decide +kernel
theorem dX3_addRule_87 : decode cX3_addRule 87 = .ok (.getfield 69, 3) := by decide +kernel
theorem dX3_addRule_90 : decode cX3_addRule 90 = .ok (.invokevirtual 30, 3) := by decide +kernel
theorem dX3_addRule_93 : decode cX3_addRule 93 = .ok (.return_, 1) := by decide +kernel
theorem dX3_addWord_0 : decode cX3_addWord 0 = .ok (.iconst 0, 1) := by decide +kernel
theorem dX3_addWord_1 : decode cX3_addWord 1 = .ok (.istore_n 2, 1) := by decide +kernel
theorem dX3_addWord_2 : decode cX3_addWord 2 = .ok (.iload_n 2, 1) := by decide +kernel
theorem dX3_addWord_3 : decode cX3_addWord 3 = .ok (.aload_n 1, 1) := by decide +kernel
theorem dX3_addWord_4 : decode cX3_addWord 4 = .ok (.invokevirtual 88, 3) := by decide +kernel
theorem dX3_addWord_7 : decode cX3_addWord 7 = .ok (.if_icmp .ge 18, 3) := by decide +kernel
theorem dX3_addWord_10 : decode cX3_addWord 10 = .ok (.aload_n 0, 1) := by decide +kernel
theorem dX3_addWord_11 : decode cX3_addWord 11 = .ok (.aload_n 1, 1) := by decide +kernel
theorem dX3_addWord_12 : decode cX3_addWord 12 = .ok (.iload_n 2, 1) := by decide +kernel
theorem dX3_addWord_13 : decode cX3_addWord 13 = .ok (.invokevirtual 93, 3) := by decide +kernel
theorem dX3_addWord_16 : decode cX3_addWord 16 = .ok (.invokevirtual 40, 3) := by decide +kernel
theorem dX3_addWord_19 : decode cX3_addWord 19 = .ok (.iinc 2 1, 3) := by decide +kernel
theorem dX3_addWord_22 : decode cX3_addWord 22 = .ok (.goto (-20), 3) := by decide +kernel
theorem dX3_addWord_25 : decode cX3_addWord 25 = .ok (.return_, 1) := by decide +kernel
theorem dX3_addNumber_0 : decode cX3_addNumber 0 = .ok (.aload_n 0, 1) := by decide +kernel
theorem dX3_addNumber_1 : decode cX3_addNumber 1 = .ok (.bipush 32, 2) := by decide +kernel
theorem dX3_addNumber_3 : decode cX3_addNumber 3 = .ok (.invokevirtual 40, 3) := by decide +kernel
theorem dX3_addNumber_6 : decode cX3_addNumber 6 = .ok (.sipush 1000, 3) := by decide +kernel
theorem dX3_addNumber_9 : decode cX3_addNumber 9 = .ok (.istore_n 2, 1) := by decide +kernel
theorem dX3_addNumber_10 : decode cX3_addNumber 10 = .ok (.iload_n 2, 1) := by decide +kernel
theorem dX3_addNumber_11 : decode cX3_addNumber 11 = .ok (.iconst 1, 1) := by decide +kernel
theorem dX3_addNumber_12 : decode cX3_addNumber 12 = .ok (.if_icmp .lt 34, 3) := by decide +kernel
theorem dX3_addNumber_15 : decode cX3_addNumber 15 = .ok (.iload_n 1, 1) := by decide +kernel
theorem dX3_addNumber_16 : decode cX3_addNumber 16 = .ok (.iload_n 2, 1) := by decide +kernel
theorem dX3_addNumber_17 : decode cX3_addNumber 17 = .ok (.if_icmp .ge 8, 3) := by decide +kernel
theorem dX3_addNumber_20 : decode cX3_addNumber 20 = .ok (.iload_n 2, 1) := by decide +kernel
theorem dX3_addNumber_21 : decode cX3_addNumber 21 = .ok (.iconst 1, 1) := by decide +kernel
theorem dX3_addNumber_22 : decode cX3_addNumber 22 = .ok (.if_icmp .ne 16, 3) := by decide +kernel
theorem dX3_addNumber_25 : decode cX3_addNumber 25 = .ok (.aload_n 0, 1) := by decide +kernel
theorem dX3_addNumber_26 : decode cX3_addNumber 26 = .ok (.bipush 48, 2) := by decide +kernel
theorem dX3_addNumber_28 : decode cX3_addNumber 28 = .ok (.iload_n 1, 1) := by decide +kernel
theorem dX3_addNumber_29 : decode cX3_addNumber 29 = .ok (.iload_n 2, 1) := by decide +kernel
theorem dX3_addNumber_30 : decode cX3_addNumber 30 = .ok (.idiv, 1) := by decide +kernel
theorem dX3_addNumber_31 : decode cX3_addNumber 31 = .ok (.bipush 10, 2) := by decide +kernel
theorem dX3_addNumber_33 : decode cX3_addNumber 33 = .ok (.irem, 1) := by decide +kernel
theorem dX3_addNumber_34 : decode cX3_addNumber 34 = .ok (.iadd, 1) := by decide +kernel
theorem dX3_addNumber_35 : decode cX3_addNumber 35 = .ok (.invokevirtual 40, 3) := by decide +kernel
theorem dX3_addNumber_38 : decode cX3_addNumber 38 = .ok (.iload_n 2, 1) := by decide +kernel
theorem dX3_addNumber_39 : decode cX3_addNumber 39 = .ok (.bipush 10, 2) := by decide +kernel
theorem dX3_addNumber_41 : decode cX3_addNumber 41 = .ok (.idiv, 1) := by decide +kernel
theorem dX3_addNumber_42 : decode cX3_addNumber 42 = .ok (.istore_n 2, 1) := by decide +kernel
theorem dX3_addNumber_43 : decode cX3_addNumber 43 = .ok (.goto (-33), 3) := by decide +kernel
theorem dX3_addNumber_46 : decode cX3_addNumber 46 = .ok (.return_, 1) := by decide +kernel
theorem dX3_addCell_0 : decode cX3_addCell 0 = .ok (.iload_n 2, 1) := by decide +kernel
theorem dX3_addCell_1 : decode cX3_addCell 1 = .ok (.ifCond .le 29, 3) := by decide +kernel
theorem dX3_addCell_4 : decode cX3_addCell 4 = .ok (.aload_n 0, 1) := by decide +kernel
theorem dX3_addCell_5 : decode cX3_addCell 5 = .ok (.bipush 32, 2) := by decide +kernel
theorem dX3_addCell_7 : decode cX3_addCell 7 = .ok (.invokevirtual 40, 3) := by decide +kernel
theorem dX3_addCell_10 : decode cX3_addCell 10 = .ok (.aload_n 0, 1) := by decide +kernel
theorem dX3_addCell_11 : decode cX3_addCell 11 = .ok (.bipush 97, 2) := by decide +kernel
theorem dX3_addCell_13 : decode cX3_addCell 13 = .ok (.iload_n 1, 1) := by decide +kernel
theorem dX3_addCell_14 : decode cX3_addCell 14 = .ok (.iload_n 2, 1) := by decide +kernel
theorem dX3_addCell_15 : decode cX3_addCell 15 = .ok (.irem, 1) := by decide +kernel
theorem dX3_addCell_16 : decode cX3_addCell 16 = .ok (.iadd, 1) := by decide +kernel
theorem dX3_addCell_17 : decode cX3_addCell 17 = .ok (.invokevirtual 40, 3) := by decide +kernel
theorem dX3_addCell_20 : decode cX3_addCell 20 = .ok (.aload_n 0, 1) := by decide +kernel
theorem dX3_addCell_21 : decode cX3_addCell 21 = .ok (.bipush 49, 2) := by decide +kernel
theorem dX3_addCell_23 : decode cX3_addCell 23 = .ok (.iload_n 1, 1) := by decide +kernel
theorem dX3_addCell_24 : decode cX3_addCell 24 = .ok (.iload_n 2, 1) := by decide +kernel
theorem dX3_addCell_25 : decode cX3_addCell 25 = .ok (.idiv, 1) := by decide +kernel
theorem dX3_addCell_26 : decode cX3_addCell 26 = .ok (.iadd, 1) := by decide +kernel
theorem dX3_addCell_27 : decode cX3_addCell 27 = .ok (.invokevirtual 40, 3) := by decide +kernel
theorem dX3_addCell_30 : decode cX3_addCell 30 = .ok (.return_, 1) := by decide +kernel
theorem dX3_add_0 : decode cX3_add 0 = .ok (.aload_n 0, 1) := by decide +kernel
theorem dX3_add_1 : decode cX3_add 1 = .ok (.getfield 15, 3) := by decide +kernel
theorem dX3_add_4 : decode cX3_add 4 = .ok (.aload_n 0, 1) := by decide +kernel
theorem dX3_add_5 : decode cX3_add 5 = .ok (.getfield 9, 3) := by decide +kernel
theorem dX3_add_8 : decode cX3_add 8 = .ok (.arraylength, 1) := by decide +kernel
theorem dX3_add_9 : decode cX3_add 9 = .ok (.if_icmp .ge 23, 3) := by decide +kernel
theorem dX3_add_12 : decode cX3_add 12 = .ok (.aload_n 0, 1) := by decide +kernel
theorem dX3_add_13 : decode cX3_add 13 = .ok (.getfield 9, 3) := by decide +kernel
theorem dX3_add_16 : decode cX3_add 16 = .ok (.aload_n 0, 1) := by decide +kernel
theorem dX3_add_17 : decode cX3_add 17 = .ok (.getfield 15, 3) := by decide +kernel
theorem dX3_add_20 : decode cX3_add 20 = .ok (.iload_n 1, 1) := by decide +kernel
theorem dX3_add_21 : decode cX3_add 21 = .ok (.iastore, 1) := by decide +kernel
theorem dX3_add_22 : decode cX3_add 22 = .ok (.aload_n 0, 1) := by decide +kernel
theorem dX3_add_23 : decode cX3_add 23 = .ok (.dup, 1) := by decide +kernel
theorem dX3_add_24 : decode cX3_add 24 = .ok (.getfield 15, 3) := by decide +kernel
theorem dX3_add_27 : decode cX3_add 27 = .ok (.iconst 1, 1) := by decide +kernel
theorem dX3_add_28 : decode cX3_add 28 = .ok (.iadd, 1) := by decide +kernel
theorem dX3_add_29 : decode cX3_add 29 = .ok (.putfield 15, 3) := by decide +kernel
theorem dX3_add_32 : decode cX3_add 32 = .ok (.return_, 1) := by decide +kernel
theorem dX4_init_0 : decode cX4_init 0 = .ok (.aload_n 0, 1) := by decide +kernel
theorem dX4_init_1 : decode cX4_init 1 = .ok (.invokespecial 3, 3) := by decide +kernel
theorem dX4_init_4 : decode cX4_init 4 = .ok (.aload_n 0, 1) := by decide +kernel
theorem dX4_init_5 : decode cX4_init 5 = .ok (.bipush 25, 2) := by decide +kernel
theorem dX4_init_7 : decode cX4_init 7 = .ok (.newarray .int, 2) := by decide +kernel
theorem dX4_init_9 : decode cX4_init 9 = .ok (.putfield 9, 3) := by decide +kernel
theorem dX4_init_12 : decode cX4_init 12 = .ok (.aload_n 0, 1) := by decide +kernel
theorem dX4_init_13 : decode cX4_init 13 = .ok (.bipush 65, 2) := by decide +kernel
theorem dX4_init_15 : decode cX4_init 15 = .ok (.anewarray 15, 3) := by decide +kernel
theorem dX4_init_18 : decode cX4_init 18 = .ok (.putfield 17, 3) := by decide +kernel
theorem dX4_init_21 : decode cX4_init 21 = .ok (.aload_n 0, 1) := by decide +kernel
theorem dX4_init_22 : decode cX4_init 22 = .ok (.bipush 25, 2) := by decide +kernel
theorem dX4_init_24 : decode cX4_init 24 = .ok (.newarray .int, 2) := by decide +kernel
theorem dX4_init_26 : decode cX4_init 26 = .ok (.putfield 21, 3) := by decide +kernel
theorem dX4_init_29 : decode cX4_init 29 = .ok (.iconst 0, 1) := by decide +kernel
theorem dX4_init_30 : decode cX4_init 30 = .ok (.istore_n 1, 1) := by decide +kernel
theorem dX4_init_31 : decode cX4_init 31 = .ok (.iload_n 1, 1) := by decide +kernel
theorem dX4_init_32 : decode cX4_init 32 = .ok (.aload_n 0, 1) := by decide +kernel
theorem dX4_init_33 : decode cX4_init 33 = .ok (.getfield 17, 3) := by decide +kernel
theorem dX4_init_36 : decode cX4_init 36 = .ok (.arraylength, 1) := by decide +kernel
theorem dX4_init_37 : decode cX4_init 37 = .ok (.if_icmp .ge 22, 3) := by decide +kernel
theorem dX4_init_40 : decode cX4_init 40 = .ok (.aload_n 0, 1) := by decide +kernel
theorem dX4_init_41 : decode cX4_init 41 = .ok (.getfield 17, 3) := by decide +kernel
theorem dX4_init_44 : decode cX4_init 44 = .ok (.iload_n 1, 1) := by decide +kernel
theorem dX4_init_45 : decode cX4_init 45 = .ok (.new 15, 3) := by decide +kernel
theorem dX4_init_48 : decode cX4_init 48 = .ok (.dup, 1) := by decide +kernel
theorem dX4_init_49 : decode cX4_init 49 = .ok (.invokespecial 24, 3) := by decide +kernel
theorem dX4_init_52 : decode cX4_init 52 = .ok (.aastore, 1) := by decide +kernel
theorem dX4_init_53 : decode cX4_init 53 = .ok (.iinc 1 1, 3) := by decide +kernel
theorem dX4_init_56 : decode cX4_init 56 = .ok (.goto (-25), 3) := by decide +kernel
theorem dX4_init_59 : decode cX4_init 59 = .ok (.return_, 1) := by decide +kernel
theorem dX4_begin_0 : decode cX4_begin 0 = .ok (.aload_n 0, 1) := by decide +kernel
theorem dX4_begin_1 : decode cX4_begin 1 = .ok (.iload_n 1, 1) := by decide +kernel
theorem dX4_begin_2 : decode cX4_begin 2 = .ok (.putfield 25, 3) := by decide +kernel
theorem dX4_begin_5 : decode cX4_begin 5 = .ok (.aload_n 0, 1) := by decide +kernel
theorem dX4_begin_6 : decode cX4_begin 6 = .ok (.iload_n 2, 1) := by decide +kernel
theorem dX4_begin_7 : decode cX4_begin 7 = .ok (.putfield 29, 3) := by decide +kernel
theorem dX4_begin_10 : decode cX4_begin 10 = .ok (.aload_n 0, 1) := by decide +kernel
theorem dX4_begin_11 : decode cX4_begin 11 = .ok (.iload_n 3, 1) := by decide +kernel
theorem dX4_begin_12 : decode cX4_begin 12 = .ok (.putfield 32, 3) := by decide +kernel
theorem dX4_begin_15 : decode cX4_begin 15 = .ok (.aload_n 0, 1) := by decide +kernel
theorem dX4_begin_16 : decode cX4_begin 16 = .ok (.iconst 0, 1) := by decide +kernel
theorem dX4_begin_17 : decode cX4_begin 17 = .ok (.putfield 35, 3) := by decide +kernel
theorem dX4_begin_20 : decode cX4_begin 20 = .ok (.aload_n 0, 1) := by decide +kernel
theorem dX4_begin_21 : decode cX4_begin 21 = .ok (.invokevirtual 38, 3) := by decide +kernel
theorem dX4_begin_24 : decode cX4_begin 24 = .ok (.return_, 1) := by decide +kernel
theorem dX4_isThere_0 : decode cX4_isThere 0 = .ok (.aload_n 0, 1) := by decide +kernel
theorem dX4_isThere_1 : decode cX4_isThere 1 = .ok (.getfield 25, 3) := by decide +kernel
theorem dX4_isThere_4 : decode cX4_isThere 4 = .ok (.ifCond .le 7, 3) := by decide +kernel
theorem dX4_isThere_7 : decode cX4_isThere 7 = .ok (.iconst 1, 1) := by decide +kernel
theorem dX4_isThere_8 : decode cX4_isThere 8 = .ok (.goto 4, 3) := by decide +kernel
theorem dX4_isThere_11 : decode cX4_isThere 11 = .ok (.iconst 0, 1) := by decide +kernel
theorem dX4_isThere_12 : decode cX4_isThere 12 = .ok (.ireturn, 1) := by decide +kernel
theorem dX4_cellCount_0 : decode cX4_cellCount 0 = .ok (.aload_n 0, 1) := by decide +kernel
theorem dX4_cellCount_1 : decode cX4_cellCount 1 = .ok (.getfield 25, 3) := by decide +kernel
theorem dX4_cellCount_4 : decode cX4_cellCount 4 = .ok (.aload_n 0, 1) := by decide +kernel
theorem dX4_cellCount_5 : decode cX4_cellCount 5 = .ok (.getfield 29, 3) := by decide +kernel
theorem dX4_cellCount_8 : decode cX4_cellCount 8 = .ok (.imul, 1) := by decide +kernel
theorem dX4_cellCount_9 : decode cX4_cellCount 9 = .ok (.ireturn, 1) := by decide +kernel
theorem dX4_emptyGrid_0 : decode cX4_emptyGrid 0 = .ok (.iconst 0, 1) := by decide +kernel
theorem dX4_emptyGrid_1 : decode cX4_emptyGrid 1 = .ok (.istore_n 1, 1) := by decide +kernel
theorem dX4_emptyGrid_2 : decode cX4_emptyGrid 2 = .ok (.iload_n 1, 1) := by decide +kernel
theorem dX4_emptyGrid_3 : decode cX4_emptyGrid 3 = .ok (.aload_n 0, 1) := by decide +kernel
theorem dX4_emptyGrid_4 : decode cX4_emptyGrid 4 = .ok (.getfield 9, 3) := by decide +kernel
theorem dX4_emptyGrid_7 : decode cX4_emptyGrid 7 = .ok (.arraylength, 1) := by decide +kernel
theorem dX4_emptyGrid_8 : decode cX4_emptyGrid 8 = .ok (.if_icmp .ge 16, 3) := by decide +kernel
theorem dX4_emptyGrid_11 : decode cX4_emptyGrid 11 = .ok (.aload_n 0, 1) := by decide +kernel
theorem dX4_emptyGrid_12 : decode cX4_emptyGrid 12 = .ok (.getfield 9, 3) := by decide +kernel
theorem dX4_emptyGrid_15 : decode cX4_emptyGrid 15 = .ok (.iload_n 1, 1) := by decide +kernel
theorem dX4_emptyGrid_16 : decode cX4_emptyGrid 16 = .ok (.iconst 0, 1) := by decide +kernel
theorem dX4_emptyGrid_17 : decode cX4_emptyGrid 17 = .ok (.iastore, 1) := by decide +kernel
theorem dX4_emptyGrid_18 : decode cX4_emptyGrid 18 = .ok (.iinc 1 1, 3) := by decide +kernel
theorem dX4_emptyGrid_21 : decode cX4_emptyGrid 21 = .ok (.goto (-19), 3) := by decide +kernel
theorem dX4_emptyGrid_24 : decode cX4_emptyGrid 24 = .ok (.return_, 1) := by decide +kernel
theorem dX4_addRule_0 : decode cX4_addRule 0 = .ok (.aload_n 0, 1) := by decide +kernel
theorem dX4_addRule_1 : decode cX4_addRule 1 = .ok (.getfield 35, 3) := by decide +kernel
theorem dX4_addRule_4 : decode cX4_addRule 4 = .ok (.aload_n 0, 1) := by decide +kernel
theorem dX4_addRule_5 : decode cX4_addRule 5 = .ok (.getfield 17, 3) := by decide +kernel
theorem dX4_addRule_8 : decode cX4_addRule 8 = .ok (.arraylength, 1) := by decide +kernel
theorem dX4_addRule_9 : decode cX4_addRule 9 = .ok (.if_icmp .ge 10, 3) := by decide +kernel
theorem dX4_addRule_12 : decode cX4_addRule 12 = .ok (.aload_n 0, 1) := by decide +kernel
theorem dX4_addRule_13 : decode cX4_addRule 13 = .ok (.getfield 35, 3) := by decide +kernel
theorem dX4_addRule_16 : decode cX4_addRule 16 = .ok (.goto 10, 3) := by decide +kernel
theorem dX4_addRule_19 : decode cX4_addRule 19 = .ok (.aload_n 0, 1) := by decide +kernel
theorem dX4_addRule_20 : decode cX4_addRule 20 = .ok (.getfield 17, 3) := by decide +kernel
theorem dX4_addRule_23 : decode cX4_addRule 23 = .ok (.arraylength, 1) := by decide +kernel
theorem dX4_addRule_24 : decode cX4_addRule 24 = .ok (.iconst 1, 1) := by decide +kernel
theorem dX4_addRule_25 : decode cX4_addRule 25 = .ok (.isub, 1) := by decide +kernel
theorem dX4_addRule_26 : decode cX4_addRule 26 = .ok (.istore_n 2, 1) := by decide +kernel
theorem dX4_addRule_27 : decode cX4_addRule 27 = .ok (.aload_n 0, 1) := by decide +kernel
theorem dX4_addRule_28 : decode cX4_addRule 28 = .ok (.iload_n 2, 1) := by decide +kernel
theorem dX4_addRule_29 : decode cX4_addRule 29 = .ok (.iconst 1, 1) := by decide +kernel
theorem dX4_addRule_30 : decode cX4_addRule 30 = .ok (.iadd, 1) := by decide +kernel
theorem dX4_addRule_31 : decode cX4_addRule 31 = .ok (.putfield 35, 3) := by decide +kernel
theorem dX4_addRule_34 : decode cX4_addRule 34 = .ok (.aload_n 0, 1) := by decide +kernel
theorem dX4_addRule_35 : decode cX4_addRule 35 = .ok (.getfield 17, 3) := by decide +kernel
theorem dX4_addRule_38 : decode cX4_addRule 38 = .ok (.iload_n 2, 1) := by decide +kernel
theorem dX4_addRule_39 : decode cX4_addRule 39 = .ok (.aaload, 1) := by decide +kernel
theorem dX4_addRule_40 : decode cX4_addRule 40 = .ok (.aload_n 1, 1) := by decide +kernel
theorem dX4_addRule_41 : decode cX4_addRule 41 = .ok (.invokevirtual 41, 3) := by decide +kernel
theorem dX4_addRule_44 : decode cX4_addRule 44 = .ok (.aload_n 0, 1) := by decide +kernel
theorem dX4_addRule_45 : decode cX4_addRule 45 = .ok (.getfield 17, 3) := by decide +kernel
theorem dX4_addRule_48 : decode cX4_addRule 48 = .ok (.iload_n 2, 1) := by decide +kernel
theorem dX4_addRule_49 : decode cX4_addRule 49 = .ok (.aaload, 1) := by decide +kernel
theorem dX4_addRule_50 : decode cX4_addRule 50 = .ok (.areturn, 1) := by decide +kernel
theorem dX4_addRowRules_0 : decode cX4_addRowRules 0 = .ok (.iconst 0, 1) := by decide +kernel
theorem dX4_addRowRules_1 : decode cX4_addRowRules 1 = .ok (.istore_n 1, 1) := by decide +kernel
theorem dX4_addRowRules_2 : decode cX4_addRowRules 2 = .ok (.iload_n 1, 1) := by decide +kernel
theorem dX4_addRowRules_3 : decode cX4_addRowRules 3 = .ok (.aload_n 0, 1) := by decide +kernel
theorem dX4_addRowRules_4 : decode cX4_addRowRules 4 = .ok (.getfield 29, 3) := by decide +kernel
theorem dX4_addRowRules_7 : decode cX4_addRowRules 7 = .ok (.if_icmp .ge 45, 3) := by decide +kernel
theorem dX4_addRowRules_10 : decode cX4_addRowRules 10 = .ok (.aload_n 0, 1) := by decide +kernel
theorem dX4_addRowRules_11 : decode cX4_addRowRules 11 = .ok (.getstatic 45, 3) := by decide +kernel
theorem dX4_addRowRules_14 : decode cX4_addRowRules 14 = .ok (.invokevirtual 51, 3) := by decide +kernel
theorem dX4_addRowRules_17 : decode cX4_addRowRules 17 = .ok (.astore_n 2, 1) := by decide +kernel
theorem dX4_addRowRules_18 : decode cX4_addRowRules 18 = .ok (.iconst 0, 1) := by decide +kernel
theorem dX4_addRowRules_19 : decode cX4_addRowRules 19 = .ok (.istore_n 3, 1) := by decide +kernel
theorem dX4_addRowRules_20 : decode cX4_addRowRules 20 = .ok (.iload_n 3, 1) := by decide +kernel
theorem dX4_addRowRules_21 : decode cX4_addRowRules 21 = .ok (.aload_n 0, 1) := by decide +kernel
theorem dX4_addRowRules_22 : decode cX4_addRowRules 22 = .ok (.getfield 25, 3) := by decide +kernel
theorem dX4_addRowRules_25 : decode cX4_addRowRules 25 = .ok (.if_icmp .ge 21, 3) := by decide +kernel
theorem dX4_addRowRules_28 : decode cX4_addRowRules 28 = .ok (.aload_n 2, 1) := by decide +kernel
theorem dX4_addRowRules_29 : decode cX4_addRowRules 29 = .ok (.iload_n 3, 1) := by decide +kernel
theorem dX4_addRowRules_30 : decode cX4_addRowRules 30 = .ok (.aload_n 0, 1) := by decide +kernel
theorem dX4_addRowRules_31 : decode cX4_addRowRules 31 = .ok (.getfield 25, 3) := by decide +kernel
theorem dX4_addRowRules_34 : decode cX4_addRowRules 34 = .ok (.iload_n 1, 1) := by decide +kernel
theorem dX4_addRowRules_35 : decode cX4_addRowRules 35 = .ok (.imul, 1) := by decide +kernel
theorem dX4_addRowRules_36 : decode cX4_addRowRules 36 = .ok (.iadd, 1) := by decide +kernel
theorem dX4_addRowRules_37 : decode cX4_addRowRules 37 = .ok (.invokevirtual 55, 3) := by decide +kernel
theorem dX4_addRowRules_40 : decode cX4_addRowRules 40 = .ok (.iinc 3 1, 3) := by decide +kernel
theorem dX4_addRowRules_43 : decode cX4_addRowRules 43 = .ok (.goto (-23), 3) := by decide +kernel
theorem dX4_addRowRules_46 : decode cX4_addRowRules 46 = .ok (.iinc 1 1, 3) := by decide +kernel
theorem dX4_addRowRules_49 : decode cX4_addRowRules 49 = .ok (.goto (-47), 3) := by decide +kernel
theorem dX4_addRowRules_52 : decode cX4_addRowRules 52 = .ok (.return_, 1) := by decide +kernel
theorem dX4_addColumnRules_0 : decode cX4_addColumnRules 0 = .ok (.iconst 0, 1) := by decide +kernel
theorem dX4_addColumnRules_1 : decode cX4_addColumnRules 1 = .ok (.istore_n 1, 1) := by decide +kernel
theorem dX4_addColumnRules_2 : decode cX4_addColumnRules 2 = .ok (.iload_n 1, 1) := by decide +kernel
theorem dX4_addColumnRules_3 : decode cX4_addColumnRules 3 = .ok (.aload_n 0, 1) := by decide +kernel
theorem dX4_addColumnRules_4 : decode cX4_addColumnRules 4 = .ok (.getfield 25, 3) := by decide +kernel
theorem dX4_addColumnRules_7 : decode cX4_addColumnRules 7 = .ok (.if_icmp .ge 45, 3) := by decide +kernel
theorem dX4_addColumnRules_10 : decode cX4_addColumnRules 10 = .ok (.aload_n 0, 1) := by decide +kernel
theorem dX4_addColumnRules_11 : decode cX4_addColumnRules 11 = .ok (.getstatic 45, 3) := by decide +kernel
theorem dX4_addColumnRules_14 : decode cX4_addColumnRules 14 = .ok (.invokevirtual 51, 3) := by decide +kernel
theorem dX4_addColumnRules_17 : decode cX4_addColumnRules 17 = .ok (.astore_n 2, 1) := by decide +kernel
theorem dX4_addColumnRules_18 : decode cX4_addColumnRules 18 = .ok (.iconst 0, 1) := by decide +kernel
theorem dX4_addColumnRules_19 : decode cX4_addColumnRules 19 = .ok (.istore_n 3, 1) := by decide +kernel
theorem dX4_addColumnRules_20 : decode cX4_addColumnRules 20 = .ok (.iload_n 3, 1) := by decide +kernel
theorem dX4_addColumnRules_21 : decode cX4_addColumnRules 21 = .ok (.aload_n 0, 1) := by decide +kernel
theorem dX4_addColumnRules_22 : decode cX4_addColumnRules 22 = .ok (.getfield 29, 3) := by decide +kernel
theorem dX4_addColumnRules_25 : decode cX4_addColumnRules 25 = .ok (.if_icmp .ge 21, 3) := by decide +kernel
theorem dX4_addColumnRules_28 : decode cX4_addColumnRules 28 = .ok (.aload_n 2, 1) := by decide +kernel
theorem dX4_addColumnRules_29 : decode cX4_addColumnRules 29 = .ok (.iload_n 1, 1) := by decide +kernel
theorem dX4_addColumnRules_30 : decode cX4_addColumnRules 30 = .ok (.aload_n 0, 1) := by decide +kernel
theorem dX4_addColumnRules_31 : decode cX4_addColumnRules 31 = .ok (.getfield 25, 3) := by decide +kernel
theorem dX4_addColumnRules_34 : decode cX4_addColumnRules 34 = .ok (.iload_n 3, 1) := by decide +kernel
theorem dX4_addColumnRules_35 : decode cX4_addColumnRules 35 = .ok (.imul, 1) := by decide +kernel
theorem dX4_addColumnRules_36 : decode cX4_addColumnRules 36 = .ok (.iadd, 1) := by decide +kernel
theorem dX4_addColumnRules_37 : decode cX4_addColumnRules 37 = .ok (.invokevirtual 55, 3) := by decide +kernel
theorem dX4_addColumnRules_40 : decode cX4_addColumnRules 40 = .ok (.iinc 3 1, 3) := by decide +kernel
theorem dX4_addColumnRules_43 : decode cX4_addColumnRules 43 = .ok (.goto (-23), 3) := by decide +kernel
theorem dX4_addColumnRules_46 : decode cX4_addColumnRules 46 = .ok (.iinc 1 1, 3) := by decide +kernel
theorem dX4_addColumnRules_49 : decode cX4_addColumnRules 49 = .ok (.goto (-47), 3) := by decide +kernel
theorem dX4_addColumnRules_52 : decode cX4_addColumnRules 52 = .ok (.return_, 1) := by decide +kernel
theorem dX4_addGiven_0 : decode cX4_addGiven 0 = .ok (.aload_n 0, 1) := by decide +kernel
theorem dX4_addGiven_1 : decode cX4_addGiven 1 = .ok (.getstatic 59, 3) := by decide +kernel
theorem dX4_addGiven_4 : decode cX4_addGiven 4 = .ok (.invokevirtual 51, 3) := by decide +kernel
theorem dX4_addGiven_7 : decode cX4_addGiven 7 = .ok (.astore_n 3, 1) := by decide +kernel
theorem dX4_addGiven_8 : decode cX4_addGiven 8 = .ok (.aload_n 3, 1) := by decide +kernel
theorem dX4_addGiven_9 : decode cX4_addGiven 9 = .ok (.iload_n 2, 1) := by decide +kernel
theorem dX4_addGiven_10 : decode cX4_addGiven 10 = .ok (.putfield 62, 3) := by decide +kernel
theorem dX4_addGiven_13 : decode cX4_addGiven 13 = .ok (.aload_n 3, 1) := by decide +kernel
theorem dX4_addGiven_14 : decode cX4_addGiven 14 = .ok (.iload_n 1, 1) := by decide +kernel
theorem dX4_addGiven_15 : decode cX4_addGiven 15 = .ok (.invokevirtual 55, 3) := by decide +kernel
theorem dX4_addGiven_18 : decode cX4_addGiven 18 = .ok (.return_, 1) := by decide +kernel
theorem dX4_removeRule_0 : decode cX4_removeRule 0 = .ok (.aload_n 0, 1) := by decide +kernel
theorem dX4_removeRule_1 : decode cX4_removeRule 1 = .ok (.getfield 17, 3) := by decide +kernel
theorem dX4_removeRule_4 : decode cX4_removeRule 4 = .ok (.iload_n 1, 1) := by decide +kernel
theorem dX4_removeRule_5 : decode cX4_removeRule 5 = .ok (.aaload, 1) := by decide +kernel
theorem dX4_removeRule_6 : decode cX4_removeRule 6 = .ok (.astore_n 2, 1) := by decide +kernel
theorem dX4_removeRule_7 : decode cX4_removeRule 7 = .ok (.aload_n 0, 1) := by decide +kernel
theorem dX4_removeRule_8 : decode cX4_removeRule 8 = .ok (.dup, 1) := by decide +kernel
theorem dX4_removeRule_9 : decode cX4_removeRule 9 = .ok (.getfield 35, 3) := by decide +kernel
theorem dX4_removeRule_12 : decode cX4_removeRule 12 = .ok (.iconst 1, 1) := by decide +kernel
theorem dX4_removeRule_13 : decode cX4_removeRule 13 = .ok (.isub, 1) := by decide +kernel
theorem dX4_removeRule_14 : decode cX4_removeRule 14 = .ok (.putfield 35, 3) := by decide +kernel
theorem dX4_removeRule_17 : decode cX4_removeRule 17 = .ok (.iload_n 1, 1) := by decide +kernel
theorem dX4_removeRule_18 : decode cX4_removeRule 18 = .ok (.istore_n 3, 1) := by decide +kernel
theorem dX4_removeRule_19 : decode cX4_removeRule 19 = .ok (.iload_n 3, 1) := by decide +kernel
theorem dX4_removeRule_20 : decode cX4_removeRule 20 = .ok (.aload_n 0, 1) := by decide +kernel
theorem dX4_removeRule_21 : decode cX4_removeRule 21 = .ok (.getfield 35, 3) := by decide +kernel
theorem dX4_removeRule_24 : decode cX4_removeRule 24 = .ok (.if_icmp .ge 23, 3) := by decide +kernel
theorem dX4_removeRule_27 : decode cX4_removeRule 27 = .ok (.aload_n 0, 1) := by decide +kernel
theorem dX4_removeRule_28 : decode cX4_removeRule 28 = .ok (.getfield 17, 3) := by decide +kernel
theorem dX4_removeRule_31 : decode cX4_removeRule 31 = .ok (.iload_n 3, 1) := by decide +kernel
theorem dX4_removeRule_32 : decode cX4_removeRule 32 = .ok (.aload_n 0, 1) := by decide +kernel
theorem dX4_removeRule_33 : decode cX4_removeRule 33 = .ok (.getfield 17, 3) := by decide +kernel
theorem dX4_removeRule_36 : decode cX4_removeRule 36 = .ok (.iload_n 3, 1) := by decide +kernel
theorem dX4_removeRule_37 : decode cX4_removeRule 37 = .ok (.iconst 1, 1) := by decide +kernel
theorem dX4_removeRule_38 : decode cX4_removeRule 38 = .ok (.iadd, 1) := by decide +kernel
theorem dX4_removeRule_39 : decode cX4_removeRule 39 = .ok (.aaload, 1) := by decide +kernel
theorem dX4_removeRule_40 : decode cX4_removeRule 40 = .ok (.aastore, 1) := by decide +kernel
theorem dX4_removeRule_41 : decode cX4_removeRule 41 = .ok (.iinc 3 1, 3) := by decide +kernel
theorem dX4_removeRule_44 : decode cX4_removeRule 44 = .ok (.goto (-25), 3) := by decide +kernel
theorem dX4_removeRule_47 : decode cX4_removeRule 47 = .ok (.aload_n 0, 1) := by decide +kernel
theorem dX4_removeRule_48 : decode cX4_removeRule 48 = .ok (.getfield 17, 3) := by decide +kernel
theorem dX4_removeRule_51 : decode cX4_removeRule 51 = .ok (.aload_n 0, 1) := by decide +kernel
theorem dX4_removeRule_52 : decode cX4_removeRule 52 = .ok (.getfield 35, 3) := by decide +kernel
theorem dX4_removeRule_55 : decode cX4_removeRule 55 = .ok (.aload_n 2, 1) := by decide +kernel
theorem dX4_removeRule_56 : decode cX4_removeRule 56 = .ok (.aastore, 1) := by decide +kernel
theorem dX4_removeRule_57 : decode cX4_removeRule 57 = .ok (.return_, 1) := by decide +kernel
theorem dX4_findGiven_0 : decode cX4_findGiven 0 = .ok (.iconst 0, 1) := by decide +kernel
theorem dX4_findGiven_1 : decode cX4_findGiven 1 = .ok (.istore_n 2, 1) := by decide +kernel
theorem dX4_findGiven_2 : decode cX4_findGiven 2 = .ok (.iload_n 2, 1) := by decide +kernel
theorem dX4_findGiven_3 : decode cX4_findGiven 3 = .ok (.aload_n 0, 1) := by decide +kernel
theorem dX4_findGiven_4 : decode cX4_findGiven 4 = .ok (.getfield 35, 3) := by decide +kernel
theorem dX4_findGiven_7 : decode cX4_findGiven 7 = .ok (.if_icmp .ge 24, 3) := by decide +kernel
theorem dX4_findGiven_10 : decode cX4_findGiven 10 = .ok (.aload_n 0, 1) := by decide +kernel
theorem dX4_findGiven_11 : decode cX4_findGiven 11 = .ok (.getfield 17, 3) := by decide +kernel
theorem dX4_findGiven_14 : decode cX4_findGiven 14 = .ok (.iload_n 2, 1) := by decide +kernel
theorem dX4_findGiven_15 : decode cX4_findGiven 15 = .ok (.aaload, 1) := by decide +kernel
theorem dX4_findGiven_16 : decode cX4_findGiven 16 = .ok (.iload_n 1, 1) := by decide +kernel
theorem dX4_findGiven_17 : decode cX4_findGiven 17 = .ok (.invokevirtual 65, 3) := by decide +kernel
theorem dX4_findGiven_20 : decode cX4_findGiven 20 = .ok (.ifCond .eq 5, 3) := by decide +kernel
theorem dX4_findGiven_23 : decode cX4_findGiven 23 = .ok (.iload_n 2, 1) := by decide +kernel
theorem dX4_findGiven_24 : decode cX4_findGiven 24 = .ok (.ireturn, 1) := by decide +kernel
theorem dX4_findGiven_25 : decode cX4_findGiven 25 = .ok (.iinc 2 1, 3) := by decide +kernel
theorem dX4_findGiven_28 : decode cX4_findGiven 28 = .ok (.goto (-26), 3) := by decide +kernel
theorem dX4_findGiven_31 : decode cX4_findGiven 31 = .ok (.iconst (-1), 1) := by decide +kernel
theorem dX4_findGiven_32 : decode cX4_findGiven 32 = .ok (.ireturn, 1) := by decide +kernel
theorem dX4_countGivens_0 : decode cX4_countGivens 0 = .ok (.iconst 0, 1) := by decide +kernel
theorem dX4_countGivens_1 : decode cX4_countGivens 1 = .ok (.istore_n 1, 1) := by decide +kernel
theorem dX4_countGivens_2 : decode cX4_countGivens 2 = .ok (.iconst 0, 1) := by decide +kernel
theorem dX4_countGivens_3 : decode cX4_countGivens 3 = .ok (.istore_n 2, 1) := by decide +kernel
theorem dX4_countGivens_4 : decode cX4_countGivens 4 = .ok (.iload_n 2, 1) := by decide +kernel
theorem dX4_countGivens_5 : decode cX4_countGivens 5 = .ok (.aload_n 0, 1) := by decide +kernel
theorem dX4_countGivens_6 : decode cX4_countGivens 6 = .ok (.getfield 35, 3) := by decide +kernel
theorem dX4_countGivens_9 : decode cX4_countGivens 9 = .ok (.if_icmp .ge 27, 3) := by decide +kernel
theorem dX4_countGivens_12 : decode cX4_countGivens 12 = .ok (.aload_n 0, 1) := by decide +kernel
theorem dX4_countGivens_13 : decode cX4_countGivens 13 = .ok (.getfield 17, 3) := by decide +kernel
theorem dX4_countGivens_16 : decode cX4_countGivens 16 = .ok (.iload_n 2, 1) := by decide +kernel
theorem dX4_countGivens_17 : decode cX4_countGivens 17 = .ok (.aaload, 1) := by decide +kernel
theorem dX4_countGivens_18 : decode cX4_countGivens 18 = .ok (.getfield 69, 3) := by decide +kernel
theorem dX4_countGivens_21 : decode cX4_countGivens 21 = .ok (.getstatic 59, 3) := by decide +kernel
theorem dX4_countGivens_24 : decode cX4_countGivens 24 = .ok (.if_acmp .ne 6, 3) := by decide +kernel
theorem dX4_countGivens_27 : decode cX4_countGivens 27 = .ok (.iinc 1 1, 3) := by decide +kernel
theorem dX4_countGivens_30 : decode cX4_countGivens 30 = .ok (.iinc 2 1, 3) := by decide +kernel
theorem dX4_countGivens_33 : decode cX4_countGivens 33 = .ok (.goto (-29), 3) := by decide +kernel
theorem dX4_countGivens_36 : decode cX4_countGivens 36 = .ok (.iload_n 1, 1) := by decide +kernel
theorem dX4_countGivens_37 : decode cX4_countGivens 37 = .ok (.ireturn, 1) := by decide +kernel
theorem dX4_countFilled_0 : decode cX4_countFilled 0 = .ok (.iconst 0, 1) := by decide +kernel
theorem dX4_countFilled_1 : decode cX4_countFilled 1 = .ok (.istore_n 1, 1) := by decide +kernel
theorem dX4_countFilled_2 : decode cX4_countFilled 2 = .ok (.iconst 0, 1) := by decide +kernel
theorem dX4_countFilled_3 : decode cX4_countFilled 3 = .ok (.istore_n 2, 1) := by decide +kernel
theorem dX4_countFilled_4 : decode cX4_countFilled 4 = .ok (.iload_n 2, 1) := by decide +kernel
theorem dX4_countFilled_5 : decode cX4_countFilled 5 = .ok (.aload_n 0, 1) := by decide +kernel
theorem dX4_countFilled_6 : decode cX4_countFilled 6 = .ok (.invokevirtual 72, 3) := by decide +kernel
theorem dX4_countFilled_9 : decode cX4_countFilled 9 = .ok (.if_icmp .ge 21, 3) := by decide +kernel
theorem dX4_countFilled_12 : decode cX4_countFilled 12 = .ok (.aload_n 0, 1) := by decide +kernel
theorem dX4_countFilled_13 : decode cX4_countFilled 13 = .ok (.getfield 9, 3) := by decide +kernel
theorem dX4_countFilled_16 : decode cX4_countFilled 16 = .ok (.iload_n 2, 1) := by decide +kernel
theorem dX4_countFilled_17 : decode cX4_countFilled 17 = .ok (.iaload, 1) := by decide +kernel
theorem dX4_countFilled_18 : decode cX4_countFilled 18 = .ok (.ifCond .eq 6, 3) := by decide +kernel
theorem dX4_countFilled_21 : decode cX4_countFilled 21 = .ok (.iinc 1 1, 3) := by decide +kernel
theorem dX4_countFilled_24 : decode cX4_countFilled 24 = .ok (.iinc 2 1, 3) := by decide +kernel
theorem dX4_countFilled_27 : decode cX4_countFilled 27 = .ok (.goto (-23), 3) := by decide +kernel
theorem dX4_countFilled_30 : decode cX4_countFilled 30 = .ok (.iload_n 1, 1) := by decide +kernel
theorem dX4_countFilled_31 : decode cX4_countFilled 31 = .ok (.ireturn, 1) := by decide +kernel
theorem dX4_countBroken_0 : decode cX4_countBroken 0 = .ok (.iconst 0, 1) := by decide +kernel
theorem dX4_countBroken_1 : decode cX4_countBroken 1 = .ok (.istore_n 1, 1) := by decide +kernel
theorem dX4_countBroken_2 : decode cX4_countBroken 2 = .ok (.iconst 0, 1) := by decide +kernel
theorem dX4_countBroken_3 : decode cX4_countBroken 3 = .ok (.istore_n 2, 1) := by decide +kernel
theorem dX4_countBroken_4 : decode cX4_countBroken 4 = .ok (.iload_n 2, 1) := by decide +kernel
theorem dX4_countBroken_5 : decode cX4_countBroken 5 = .ok (.aload_n 0, 1) := by decide +kernel
theorem dX4_countBroken_6 : decode cX4_countBroken 6 = .ok (.getfield 35, 3) := by decide +kernel
theorem dX4_countBroken_9 : decode cX4_countBroken 9 = .ok (.if_icmp .ge 32, 3) := by decide +kernel
theorem dX4_countBroken_12 : decode cX4_countBroken 12 = .ok (.aload_n 0, 1) := by decide +kernel
theorem dX4_countBroken_13 : decode cX4_countBroken 13 = .ok (.getfield 17, 3) := by decide +kernel
theorem dX4_countBroken_16 : decode cX4_countBroken 16 = .ok (.iload_n 2, 1) := by decide +kernel
theorem dX4_countBroken_17 : decode cX4_countBroken 17 = .ok (.aaload, 1) := by decide +kernel
theorem dX4_countBroken_18 : decode cX4_countBroken 18 = .ok (.aload_n 0, 1) := by decide +kernel
theorem dX4_countBroken_19 : decode cX4_countBroken 19 = .ok (.getfield 9, 3) := by decide +kernel
theorem dX4_countBroken_22 : decode cX4_countBroken 22 = .ok (.aload_n 0, 1) := by decide +kernel
theorem dX4_countBroken_23 : decode cX4_countBroken 23 = .ok (.getfield 32, 3) := by decide +kernel
theorem dX4_countBroken_26 : decode cX4_countBroken 26 = .ok (.invokevirtual 76, 3) := by decide +kernel
theorem dX4_countBroken_29 : decode cX4_countBroken 29 = .ok (.ifCond .eq 6, 3) := by decide +kernel
theorem dX4_countBroken_32 : decode cX4_countBroken 32 = .ok (.iinc 1 1, 3) := by decide +kernel
theorem dX4_countBroken_35 : decode cX4_countBroken 35 = .ok (.iinc 2 1, 3) := by decide +kernel
theorem dX4_countBroken_38 : decode cX4_countBroken 38 = .ok (.goto (-34), 3) := by decide +kernel
theorem dX4_countBroken_41 : decode cX4_countBroken 41 = .ok (.iload_n 1, 1) := by decide +kernel
theorem dX4_countBroken_42 : decode cX4_countBroken 42 = .ok (.ireturn, 1) := by decide +kernel
theorem dX4_isBrokenAt_0 : decode cX4_isBrokenAt 0 = .ok (.iconst 0, 1) := by decide +kernel
theorem dX4_isBrokenAt_1 : decode cX4_isBrokenAt 1 = .ok (.istore 4, 2) := by decide +kernel
theorem dX4_isBrokenAt_3 : decode cX4_isBrokenAt 3 = .ok (.iload 4, 2) := by decide +kernel
theorem dX4_isBrokenAt_5 : decode cX4_isBrokenAt 5 = .ok (.aload_n 0, 1) := by decide +kernel
theorem dX4_isBrokenAt_6 : decode cX4_isBrokenAt 6 = .ok (.getfield 35, 3) := by decide +kernel
theorem dX4_isBrokenAt_9 : decode cX4_isBrokenAt 9 = .ok (.if_icmp .ge 49, 3) := by decide +kernel
theorem dX4_isBrokenAt_12 : decode cX4_isBrokenAt 12 = .ok (.iload 4, 2) := by decide +kernel
theorem dX4_isBrokenAt_14 : decode cX4_isBrokenAt 14 = .ok (.iload_n 3, 1) := by decide +kernel
theorem dX4_isBrokenAt_15 : decode cX4_isBrokenAt 15 = .ok (.if_icmp .eq 37, 3) := by decide +kernel
theorem dX4_isBrokenAt_18 : decode cX4_isBrokenAt 18 = .ok (.aload_n 0, 1) := by decide +kernel
theorem dX4_isBrokenAt_19 : decode cX4_isBrokenAt 19 = .ok (.getfield 17, 3) := by decide +kernel
theorem dX4_isBrokenAt_22 : decode cX4_isBrokenAt 22 = .ok (.iload 4, 2) := by decide +kernel
theorem dX4_isBrokenAt_24 : decode cX4_isBrokenAt 24 = .ok (.aaload, 1) := by decide +kernel
theorem dX4_isBrokenAt_25 : decode cX4_isBrokenAt 25 = .ok (.iload_n 1, 1) := by decide +kernel
theorem dX4_isBrokenAt_26 : decode cX4_isBrokenAt 26 = .ok (.invokevirtual 80, 3) := by decide +kernel
theorem dX4_isBrokenAt_29 : decode cX4_isBrokenAt 29 = .ok (.ifCond .eq 23, 3) := by decide +kernel
theorem dX4_isBrokenAt_32 : decode cX4_isBrokenAt 32 = .ok (.aload_n 0, 1) := by decide +kernel
theorem dX4_isBrokenAt_33 : decode cX4_isBrokenAt 33 = .ok (.getfield 17, 3) := by decide +kernel
theorem dX4_isBrokenAt_36 : decode cX4_isBrokenAt 36 = .ok (.iload 4, 2) := by decide +kernel
theorem dX4_isBrokenAt_38 : decode cX4_isBrokenAt 38 = .ok (.aaload, 1) := by decide +kernel
theorem dX4_isBrokenAt_39 : decode cX4_isBrokenAt 39 = .ok (.aload_n 2, 1) := by decide +kernel
theorem dX4_isBrokenAt_40 : decode cX4_isBrokenAt 40 = .ok (.aload_n 0, 1) := by decide +kernel
theorem dX4_isBrokenAt_41 : decode cX4_isBrokenAt 41 = .ok (.getfield 32, 3) := by decide +kernel
theorem dX4_isBrokenAt_44 : decode cX4_isBrokenAt 44 = .ok (.invokevirtual 76, 3) := by decide +kernel
theorem dX4_isBrokenAt_47 : decode cX4_isBrokenAt 47 = .ok (.ifCond .eq 5, 3) := by decide +kernel
theorem dX4_isBrokenAt_50 : decode cX4_isBrokenAt 50 = .ok (.iconst 1, 1) := by decide +kernel
theorem dX4_isBrokenAt_51 : decode cX4_isBrokenAt 51 = .ok (.ireturn, 1) := by decide +kernel
theorem dX4_isBrokenAt_52 : decode cX4_isBrokenAt 52 = .ok (.iinc 4 1, 3) := by decide +kernel
theorem dX4_isBrokenAt_55 : decode cX4_isBrokenAt 55 = .ok (.goto (-52), 3) := by decide +kernel
theorem dX4_isBrokenAt_58 : decode cX4_isBrokenAt 58 = .ok (.iconst 0, 1) := by decide +kernel
theorem dX4_isBrokenAt_59 : decode cX4_isBrokenAt 59 = .ok (.ireturn, 1) := by decide +kernel
theorem dX4_becomeCopyWithoutGivens_0 : decode cX4_becomeCopyWithoutGivens 0 = .ok (.aload_n 0, 1) := by decide +kernel
theorem dX4_becomeCopyWithoutGivens_1 : decode cX4_becomeCopyWithoutGivens 1 = .ok (.aload_n 1, 1) := by decide +kernel
theorem dX4_becomeCopyWithoutGivens_2 : decode cX4_becomeCopyWithoutGivens 2 = .ok (.getfield 25, 3) := by decide +kernel
theorem dX4_becomeCopyWithoutGivens_5 : decode cX4_becomeCopyWithoutGivens 5 = .ok (.aload_n 1, 1) := by decide +kernel
theorem dX4_becomeCopyWithoutGivens_6 : decode cX4_becomeCopyWithoutGivens 6 = .ok (.getfield 29, 3) := by decide +kernel
theorem dX4_becomeCopyWithoutGivens_9 : decode cX4_becomeCopyWithoutGivens 9 = .ok (.aload_n 1, 1) := by decide +kernel
theorem dX4_becomeCopyWithoutGivens_10 : decode cX4_becomeCopyWithoutGivens 10 = .ok (.getfield 32, 3) := by decide +kernel
theorem dX4_becomeCopyWithoutGivens_13 : decode cX4_becomeCopyWithoutGivens 13 = .ok (.invokevirtual 83, 3) := by decide +kernel
theorem dX4_becomeCopyWithoutGivens_16 : decode cX4_becomeCopyWithoutGivens 16 = .ok (.iconst 0, 1) := by decide +kernel
theorem dX4_becomeCopyWithoutGivens_17 : decode cX4_becomeCopyWithoutGivens 17 = .ok (.istore_n 2, 1) := by decide +kernel
theorem dX4_becomeCopyWithoutGivens_18 : decode cX4_becomeCopyWithoutGivens 18 = .ok (.iload_n 2, 1) := by decide +kernel
theorem dX4_becomeCopyWithoutGivens_19 : decode cX4_becomeCopyWithoutGivens 19 = .ok (.aload_n 1, 1) := by decide +kernel
theorem dX4_becomeCopyWithoutGivens_20 : decode cX4_becomeCopyWithoutGivens 20 = .ok (.getfield 35, 3) := by decide +kernel
theorem dX4_becomeCopyWithoutGivens_23 : decode cX4_becomeCopyWithoutGivens 23 = .ok (.if_icmp .ge 38, 3) := by decide +kernel
theorem dX4_becomeCopyWithoutGivens_26 : decode cX4_becomeCopyWithoutGivens 26 = .ok (.aload_n 1, 1) := by decide +kernel
theorem dX4_becomeCopyWithoutGivens_27 : decode cX4_becomeCopyWithoutGivens 27 = .ok (.getfield 17, 3) := by decide +kernel
theorem dX4_becomeCopyWithoutGivens_30 : decode cX4_becomeCopyWithoutGivens 30 = .ok (.iload_n 2, 1) := by decide +kernel
theorem dX4_becomeCopyWithoutGivens_31 : decode cX4_becomeCopyWithoutGivens 31 = .ok (.aaload, 1) := by decide +kernel
theorem dX4_becomeCopyWithoutGivens_32 : decode cX4_becomeCopyWithoutGivens 32 = .ok (.astore_n 3, 1) := by decide +kernel
theorem dX4_becomeCopyWithoutGivens_33 : decode cX4_becomeCopyWithoutGivens 33 = .ok (.aload_n 3, 1) := by decide +kernel
theorem dX4_becomeCopyWithoutGivens_34 : decode cX4_becomeCopyWithoutGivens 34 = .ok (.getfield 69, 3) := by decide +kernel
theorem dX4_becomeCopyWithoutGivens_37 : decode cX4_becomeCopyWithoutGivens 37 = .ok (.getstatic 59, 3) := by decide +kernel
theorem dX4_becomeCopyWithoutGivens_40 : decode cX4_becomeCopyWithoutGivens 40 = .ok (.if_acmp .eq 15, 3) := by decide +kernel
theorem dX4_becomeCopyWithoutGivens_43 : decode cX4_becomeCopyWithoutGivens 43 = .ok (.aload_n 0, 1) := by decide +kernel
theorem dX4_becomeCopyWithoutGivens_44 : decode cX4_becomeCopyWithoutGivens 44 = .ok (.aload_n 3, 1) := by decide +kernel
theorem dX4_becomeCopyWithoutGivens_45 : decode cX4_becomeCopyWithoutGivens 45 = .ok (.getfield 69, 3) := by decide +kernel
theorem dX4_becomeCopyWithoutGivens_48 : decode cX4_becomeCopyWithoutGivens 48 = .ok (.invokevirtual 51, 3) := by decide +kernel
theorem dX4_becomeCopyWithoutGivens_51 : decode cX4_becomeCopyWithoutGivens 51 = .ok (.aload_n 3, 1) := by decide +kernel
theorem dX4_becomeCopyWithoutGivens_52 : decode cX4_becomeCopyWithoutGivens 52 = .ok (.invokevirtual 86, 3) := by decide +kernel
theorem dX4_becomeCopyWithoutGivens_55 : decode cX4_becomeCopyWithoutGivens 55 = .ok (.iinc 2 1, 3) := by decide +kernel
theorem dX4_becomeCopyWithoutGivens_58 : decode cX4_becomeCopyWithoutGivens 58 = .ok (.goto (-40), 3) := by decide +kernel
theorem dX4_becomeCopyWithoutGivens_61 : decode cX4_becomeCopyWithoutGivens 61 = .ok (.return_, 1) := by decide +kernel
theorem dX4_becomeMoved_0 : decode cX4_becomeMoved 0 = .ok (.iload_n 2, 1) := by decide +kernel
theorem dX4_becomeMoved_1 : decode cX4_becomeMoved 1 = .ok (.ifCond .eq 22, 3) := by decide +kernel
theorem dX4_becomeMoved_4 : decode cX4_becomeMoved 4 = .ok (.aload_n 0, 1) := by decide +kernel
theorem dX4_becomeMoved_5 : decode cX4_becomeMoved 5 = .ok (.aload_n 1, 1) := by decide +kernel
theorem dX4_becomeMoved_6 : decode cX4_becomeMoved 6 = .ok (.getfield 29, 3) := by decide +kernel
theorem dX4_becomeMoved_9 : decode cX4_becomeMoved 9 = .ok (.aload_n 1, 1) := by decide +kernel
theorem dX4_becomeMoved_10 : decode cX4_becomeMoved 10 = .ok (.getfield 25, 3) := by decide +kernel
theorem dX4_becomeMoved_13 : decode cX4_becomeMoved 13 = .ok (.aload_n 1, 1) := by decide +kernel
theorem dX4_becomeMoved_14 : decode cX4_becomeMoved 14 = .ok (.getfield 32, 3) := by decide +kernel
theorem dX4_becomeMoved_17 : decode cX4_becomeMoved 17 = .ok (.invokevirtual 83, 3) := by decide +kernel
theorem dX4_becomeMoved_20 : decode cX4_becomeMoved 20 = .ok (.goto 19, 3) := by decide +kernel
theorem dX4_becomeMoved_23 : decode cX4_becomeMoved 23 = .ok (.aload_n 0, 1) := by decide +kernel
theorem dX4_becomeMoved_24 : decode cX4_becomeMoved 24 = .ok (.aload_n 1, 1) := by decide +kernel
theorem dX4_becomeMoved_25 : decode cX4_becomeMoved 25 = .ok (.getfield 25, 3) := by decide +kernel
theorem dX4_becomeMoved_28 : decode cX4_becomeMoved 28 = .ok (.aload_n 1, 1) := by decide +kernel
theorem dX4_becomeMoved_29 : decode cX4_becomeMoved 29 = .ok (.getfield 29, 3) := by decide +kernel
theorem dX4_becomeMoved_32 : decode cX4_becomeMoved 32 = .ok (.aload_n 1, 1) := by decide +kernel
theorem dX4_becomeMoved_33 : decode cX4_becomeMoved 33 = .ok (.getfield 32, 3) := by decide +kernel
theorem dX4_becomeMoved_36 : decode cX4_becomeMoved 36 = .ok (.invokevirtual 83, 3) := by decide +kernel
theorem dX4_becomeMoved_39 : decode cX4_becomeMoved 39 = .ok (.iconst 0, 1) := by decide +kernel
theorem dX4_becomeMoved_40 : decode cX4_becomeMoved 40 = .ok (.istore_n 3, 1) := by decide +kernel
theorem dX4_becomeMoved_41 : decode cX4_becomeMoved 41 = .ok (.iload_n 3, 1) := by decide +kernel
theorem dX4_becomeMoved_42 : decode cX4_becomeMoved 42 = .ok (.aload_n 1, 1) := by decide +kernel
theorem dX4_becomeMoved_43 : decode cX4_becomeMoved 43 = .ok (.getfield 29, 3) := by decide +kernel
theorem dX4_becomeMoved_46 : decode cX4_becomeMoved 46 = .ok (.if_icmp .ge 112, 3) := by decide +kernel
theorem dX4_becomeMoved_49 : decode cX4_becomeMoved 49 = .ok (.iconst 0, 1) := by decide +kernel
theorem dX4_becomeMoved_50 : decode cX4_becomeMoved 50 = .ok (.istore 4, 2) := by decide +kernel
theorem dX4_becomeMoved_52 : decode cX4_becomeMoved 52 = .ok (.iload 4, 2) := by decide +kernel
theorem dX4_becomeMoved_54 : decode cX4_becomeMoved 54 = .ok (.aload_n 1, 1) := by decide +kernel
theorem dX4_becomeMoved_55 : decode cX4_becomeMoved 55 = .ok (.getfield 25, 3) := by decide +kernel
theorem dX4_becomeMoved_58 : decode cX4_becomeMoved 58 = .ok (.if_icmp .ge 94, 3) := by decide +kernel
theorem dX4_becomeMoved_61 : decode cX4_becomeMoved 61 = .ok (.iload_n 2, 1) := by decide +kernel
theorem dX4_becomeMoved_62 : decode cX4_becomeMoved 62 = .ok (.ifCond .eq 14, 3) := by decide +kernel
theorem dX4_becomeMoved_65 : decode cX4_becomeMoved 65 = .ok (.aload_n 1, 1) := by decide +kernel
theorem dX4_becomeMoved_66 : decode cX4_becomeMoved 66 = .ok (.getfield 29, 3) := by decide +kernel
theorem dX4_becomeMoved_69 : decode cX4_becomeMoved 69 = .ok (.iconst 1, 1) := by decide +kernel
theorem dX4_becomeMoved_70 : decode cX4_becomeMoved 70 = .ok (.isub, 1) := by decide +kernel
theorem dX4_becomeMoved_71 : decode cX4_becomeMoved 71 = .ok (.iload_n 3, 1) := by decide +kernel
theorem dX4_becomeMoved_72 : decode cX4_becomeMoved 72 = .ok (.isub, 1) := by decide +kernel
theorem dX4_becomeMoved_73 : decode cX4_becomeMoved 73 = .ok (.goto 12, 3) := by decide +kernel
theorem dX4_becomeMoved_76 : decode cX4_becomeMoved 76 = .ok (.aload_n 1, 1) := by decide +kernel
theorem dX4_becomeMoved_77 : decode cX4_becomeMoved 77 = .ok (.getfield 25, 3) := by decide +kernel
theorem dX4_becomeMoved_80 : decode cX4_becomeMoved 80 = .ok (.iconst 1, 1) := by decide +kernel
theorem dX4_becomeMoved_81 : decode cX4_becomeMoved 81 = .ok (.isub, 1) := by decide +kernel
theorem dX4_becomeMoved_82 : decode cX4_becomeMoved 82 = .ok (.iload 4, 2) := by decide +kernel
theorem dX4_becomeMoved_84 : decode cX4_becomeMoved 84 = .ok (.isub, 1) := by decide +kernel
theorem dX4_becomeMoved_85 : decode cX4_becomeMoved 85 = .ok (.istore 5, 2) := by decide +kernel
theorem dX4_becomeMoved_87 : decode cX4_becomeMoved 87 = .ok (.iload_n 2, 1) := by decide +kernel
theorem dX4_becomeMoved_88 : decode cX4_becomeMoved 88 = .ok (.ifCond .eq 8, 3) := by decide +kernel
theorem dX4_becomeMoved_91 : decode cX4_becomeMoved 91 = .ok (.iload 4, 2) := by decide +kernel
theorem dX4_becomeMoved_93 : decode cX4_becomeMoved 93 = .ok (.goto 4, 3) := by decide +kernel
theorem dX4_becomeMoved_96 : decode cX4_becomeMoved 96 = .ok (.iload_n 3, 1) := by decide +kernel
theorem dX4_becomeMoved_97 : decode cX4_becomeMoved 97 = .ok (.istore 6, 2) := by decide +kernel
theorem dX4_becomeMoved_99 : decode cX4_becomeMoved 99 = .ok (.iload 4, 2) := by decide +kernel
theorem dX4_becomeMoved_101 : decode cX4_becomeMoved 101 = .ok (.aload_n 1, 1) := by decide +kernel
theorem dX4_becomeMoved_102 : decode cX4_becomeMoved 102 = .ok (.getfield 25, 3) := by decide +kernel
theorem dX4_becomeMoved_105 : decode cX4_becomeMoved 105 = .ok (.iload_n 3, 1) := by decide +kernel
theorem dX4_becomeMoved_106 : decode cX4_becomeMoved 106 = .ok (.imul, 1) := by decide +kernel
theorem dX4_becomeMoved_107 : decode cX4_becomeMoved 107 = .ok (.iadd, 1) := by decide +kernel
theorem dX4_becomeMoved_108 : decode cX4_becomeMoved 108 = .ok (.istore 7, 2) := by decide +kernel
theorem dX4_becomeMoved_110 : decode cX4_becomeMoved 110 = .ok (.aload_n 0, 1) := by decide +kernel
theorem dX4_becomeMoved_111 : decode cX4_becomeMoved 111 = .ok (.getfield 21, 3) := by decide +kernel
theorem dX4_becomeMoved_114 : decode cX4_becomeMoved 114 = .ok (.iload 7, 2) := by decide +kernel
theorem dX4_becomeMoved_116 : decode cX4_becomeMoved 116 = .ok (.iload 5, 2) := by decide +kernel
theorem dX4_becomeMoved_118 : decode cX4_becomeMoved 118 = .ok (.aload_n 0, 1) := by decide +kernel
theorem dX4_becomeMoved_119 : decode cX4_becomeMoved 119 = .ok (.getfield 25, 3) := by decide +kernel
theorem dX4_becomeMoved_122 : decode cX4_becomeMoved 122 = .ok (.iload 6, 2) := by decide +kernel
theorem dX4_becomeMoved_124 : decode cX4_becomeMoved 124 = .ok (.imul, 1) := by decide +kernel
theorem dX4_becomeMoved_125 : decode cX4_becomeMoved 125 = .ok (.iadd, 1) := by decide +kernel
theorem dX4_becomeMoved_126 : decode cX4_becomeMoved 126 = .ok (.iastore, 1) := by decide +kernel
theorem dX4_becomeMoved_127 : decode cX4_becomeMoved 127 = .ok (.aload_n 0, 1) := by decide +kernel
theorem dX4_becomeMoved_128 : decode cX4_becomeMoved 128 = .ok (.getfield 9, 3) := by decide +kernel
theorem dX4_becomeMoved_131 : decode cX4_becomeMoved 131 = .ok (.aload_n 0, 1) := by decide +kernel
theorem dX4_becomeMoved_132 : decode cX4_becomeMoved 132 = .ok (.getfield 21, 3) := by decide +kernel
theorem dX4_becomeMoved_135 : decode cX4_becomeMoved 135 = .ok (.iload 7, 2) := by decide +kernel
theorem dX4_becomeMoved_137 : decode cX4_becomeMoved 137 = .ok (.iaload, 1) := by decide +kernel
theorem dX4_becomeMoved_138 : decode cX4_becomeMoved 138 = .ok (.aload_n 1, 1) := by decide +kernel
theorem dX4_becomeMoved_139 : decode cX4_becomeMoved 139 = .ok (.getfield 9, 3) := by decide +kernel
theorem dX4_becomeMoved_142 : decode cX4_becomeMoved 142 = .ok (.iload 7, 2) := by decide +kernel
theorem dX4_becomeMoved_144 : decode cX4_becomeMoved 144 = .ok (.iaload, 1) := by decide +kernel
theorem dX4_becomeMoved_145 : decode cX4_becomeMoved 145 = .ok (.iastore, 1) := by decide +kernel
theorem dX4_becomeMoved_146 : decode cX4_becomeMoved 146 = .ok (.iinc 4 1, 3) := by decide +kernel
theorem dX4_becomeMoved_149 : decode cX4_becomeMoved 149 = .ok (.goto (-97), 3) := by decide +kernel
theorem dX4_becomeMoved_152 : decode cX4_becomeMoved 152 = .ok (.iinc 3 1, 3) := by decide +kernel
theorem dX4_becomeMoved_155 : decode cX4_becomeMoved 155 = .ok (.goto (-114), 3) := by decide +kernel
theorem dX4_becomeMoved_158 : decode cX4_becomeMoved 158 = .ok (.iconst 0, 1) := by decide +kernel
theorem dX4_becomeMoved_159 : decode cX4_becomeMoved 159 = .ok (.istore_n 3, 1) := by decide +kernel
theorem dX4_becomeMoved_160 : decode cX4_becomeMoved 160 = .ok (.iload_n 3, 1) := by decide +kernel
theorem dX4_becomeMoved_161 : decode cX4_becomeMoved 161 = .ok (.aload_n 1, 1) := by decide +kernel
theorem dX4_becomeMoved_162 : decode cX4_becomeMoved 162 = .ok (.getfield 35, 3) := by decide +kernel
theorem dX4_becomeMoved_165 : decode cX4_becomeMoved 165 = .ok (.if_icmp .ge 44, 3) := by decide +kernel
theorem dX4_becomeMoved_168 : decode cX4_becomeMoved 168 = .ok (.aload_n 0, 1) := by decide +kernel
theorem dX4_becomeMoved_169 : decode cX4_becomeMoved 169 = .ok (.aload_n 1, 1) := by decide +kernel
theorem dX4_becomeMoved_170 : decode cX4_becomeMoved 170 = .ok (.getfield 17, 3) := by decide +kernel
theorem dX4_becomeMoved_173 : decode cX4_becomeMoved 173 = .ok (.iload_n 3, 1) := by decide +kernel
theorem dX4_becomeMoved_174 : decode cX4_becomeMoved 174 = .ok (.aaload, 1) := by decide +kernel
theorem dX4_becomeMoved_175 : decode cX4_becomeMoved 175 = .ok (.getfield 69, 3) := by decide +kernel
theorem dX4_becomeMoved_178 : decode cX4_becomeMoved 178 = .ok (.invokevirtual 51, 3) := by decide +kernel
theorem dX4_becomeMoved_181 : decode cX4_becomeMoved 181 = .ok (.astore 4, 2) := by decide +kernel
theorem dX4_becomeMoved_183 : decode cX4_becomeMoved 183 = .ok (.aload 4, 2) := by decide +kernel
theorem dX4_becomeMoved_185 : decode cX4_becomeMoved 185 = .ok (.aload_n 1, 1) := by decide +kernel
theorem dX4_becomeMoved_186 : decode cX4_becomeMoved 186 = .ok (.getfield 17, 3) := by decide +kernel
theorem dX4_becomeMoved_189 : decode cX4_becomeMoved 189 = .ok (.iload_n 3, 1) := by decide +kernel
theorem dX4_becomeMoved_190 : decode cX4_becomeMoved 190 = .ok (.aaload, 1) := by decide +kernel
theorem dX4_becomeMoved_191 : decode cX4_becomeMoved 191 = .ok (.invokevirtual 86, 3) := by decide +kernel
theorem dX4_becomeMoved_194 : decode cX4_becomeMoved 194 = .ok (.aload 4, 2) := by decide +kernel
theorem dX4_becomeMoved_196 : decode cX4_becomeMoved 196 = .ok (.aload_n 0, 1) := by decide +kernel
theorem dX4_becomeMoved_197 : decode cX4_becomeMoved 197 = .ok (.getfield 21, 3) := by decide +kernel
theorem dX4_becomeMoved_200 : decode cX4_becomeMoved 200 = .ok (.invokevirtual 90, 3) := by decide +kernel
theorem dX4_becomeMoved_203 : decode cX4_becomeMoved 203 = .ok (.iinc 3 1, 3) := by decide +kernel
theorem dX4_becomeMoved_206 : decode cX4_becomeMoved 206 = .ok (.goto (-46), 3) := by decide +kernel
theorem dX4_becomeMoved_209 : decode cX4_becomeMoved 209 = .ok (.return_, 1) := by decide +kernel
theorem dX5_init_0 : decode cX5_init 0 = .ok (.aload_n 0, 1) := by decide +kernel
theorem dX5_init_1 : decode cX5_init 1 = .ok (.invokespecial 3, 3) := by decide +kernel
theorem dX5_init_4 : decode cX5_init 4 = .ok (.aload_n 0, 1) := by decide +kernel
theorem dX5_init_5 : decode cX5_init 5 = .ok (.iconst (-1), 1) := by decide +kernel
theorem dX5_init_6 : decode cX5_init 6 = .ok (.putfield 9, 3) := by decide +kernel
theorem dX5_init_9 : decode cX5_init 9 = .ok (.aload_n 0, 1) := by decide +kernel
theorem dX5_init_10 : decode cX5_init 10 = .ok (.new 15, 3) := by decide +kernel
theorem dX5_init_13 : decode cX5_init 13 = .ok (.dup, 1) := by decide +kernel
theorem dX5_init_14 : decode cX5_init 14 = .ok (.invokespecial 17, 3) := by decide +kernel
theorem dX5_init_17 : decode cX5_init 17 = .ok (.putfield 18, 3) := by decide +kernel
theorem dX5_init_20 : decode cX5_init 20 = .ok (.return_, 1) := by decide +kernel
theorem dX5_readInto_0 : decode cX5_readInto 0 = .ok (.aload_n 0, 1) := by decide +kernel
theorem dX5_readInto_1 : decode cX5_readInto 1 = .ok (.iconst 0, 1) := by decide +kernel
theorem dX5_readInto_2 : decode cX5_readInto 2 = .ok (.putfield 22, 3) := by decide +kernel
theorem dX5_readInto_5 : decode cX5_readInto 5 = .ok (.aload_n 0, 1) := by decide +kernel
theorem dX5_readInto_6 : decode cX5_readInto 6 = .ok (.iconst (-1), 1) := by decide +kernel
theorem dX5_readInto_7 : decode cX5_readInto 7 = .ok (.putfield 9, 3) := by decide +kernel
theorem dX5_readInto_10 : decode cX5_readInto 10 = .ok (.aload_n 0, 1) := by decide +kernel
theorem dX5_readInto_11 : decode cX5_readInto 11 = .ok (.getfield 18, 3) := by decide +kernel
theorem dX5_readInto_14 : decode cX5_readInto 14 = .ok (.aload_n 2, 1) := by decide +kernel
theorem dX5_readInto_15 : decode cX5_readInto 15 = .ok (.invokevirtual 25, 3) := by decide +kernel
theorem dX5_readInto_18 : decode cX5_readInto 18 = .ok (.aload_n 0, 1) := by decide +kernel
theorem dX5_readInto_19 : decode cX5_readInto 19 = .ok (.invokevirtual 29, 3) := by decide +kernel
theorem dX5_readInto_22 : decode cX5_readInto 22 = .ok (.ifCond .ne 9, 3) := by decide +kernel
theorem dX5_readInto_25 : decode cX5_readInto 25 = .ok (.aload_n 0, 1) := by decide +kernel
theorem dX5_readInto_26 : decode cX5_readInto 26 = .ok (.iconst 1, 1) := by decide +kernel
theorem dX5_readInto_27 : decode cX5_readInto 27 = .ok (.invokevirtual 33, 3) := by decide +kernel
theorem dX5_readInto_30 : decode cX5_readInto 30 = .ok (.ireturn, 1) := by decide +kernel
theorem dX5_readInto_31 : decode cX5_readInto 31 = .ok (.aload_n 0, 1) := by decide +kernel
theorem dX5_readInto_32 : decode cX5_readInto 32 = .ok (.aload_n 1, 1) := by decide +kernel
theorem dX5_readInto_33 : decode cX5_readInto 33 = .ok (.invokevirtual 37, 3) := by decide +kernel
theorem dX5_readInto_36 : decode cX5_readInto 36 = .ok (.ifCond .eq 15, 3) := by decide +kernel
theorem dX5_readInto_39 : decode cX5_readInto 39 = .ok (.aload_n 0, 1) := by decide +kernel
theorem dX5_readInto_40 : decode cX5_readInto 40 = .ok (.aload_n 1, 1) := by decide +kernel
theorem dX5_readInto_41 : decode cX5_readInto 41 = .ok (.invokevirtual 41, 3) := by decide +kernel
theorem dX5_readInto_44 : decode cX5_readInto 44 = .ok (.ifCond .eq 7, 3) := by decide +kernel
theorem dX5_readInto_47 : decode cX5_readInto 47 = .ok (.iconst 1, 1) := by decide +kernel
theorem dX5_readInto_48 : decode cX5_readInto 48 = .ok (.goto 4, 3) := by decide +kernel
theorem dX5_readInto_51 : decode cX5_readInto 51 = .ok (.iconst 0, 1) := by decide +kernel
theorem dX5_readInto_52 : decode cX5_readInto 52 = .ok (.ireturn, 1) := by decide +kernel
theorem dX5_fail_0 : decode cX5_fail 0 = .ok (.aload_n 0, 1) := by decide +kernel
theorem dX5_fail_1 : decode cX5_fail 1 = .ok (.iload_n 1, 1) := by decide +kernel
theorem dX5_fail_2 : decode cX5_fail 2 = .ok (.putfield 22, 3) := by decide +kernel
theorem dX5_fail_5 : decode cX5_fail 5 = .ok (.aload_n 0, 1) := by decide +kernel
theorem dX5_fail_6 : decode cX5_fail 6 = .ok (.aload_n 0, 1) := by decide +kernel
theorem dX5_fail_7 : decode cX5_fail 7 = .ok (.getfield 18, 3) := by decide +kernel
theorem dX5_fail_10 : decode cX5_fail 10 = .ok (.aload_n 0, 1) := by decide +kernel
theorem dX5_fail_11 : decode cX5_fail 11 = .ok (.getfield 44, 3) := by decide +kernel
theorem dX5_fail_14 : decode cX5_fail 14 = .ok (.invokevirtual 47, 3) := by decide +kernel
theorem dX5_fail_17 : decode cX5_fail 17 = .ok (.putfield 9, 3) := by decide +kernel
theorem dX5_fail_20 : decode cX5_fail 20 = .ok (.iconst 0, 1) := by decide +kernel
theorem dX5_fail_21 : decode cX5_fail 21 = .ok (.ireturn, 1) := by decide +kernel
theorem dX5_hasForm_0 : decode cX5_hasForm 0 = .ok (.aload_n 0, 1) := by decide +kernel
theorem dX5_hasForm_1 : decode cX5_hasForm 1 = .ok (.iconst 0, 1) := by decide +kernel
theorem dX5_hasForm_2 : decode cX5_hasForm 2 = .ok (.putfield 44, 3) := by decide +kernel
theorem dX5_hasForm_5 : decode cX5_hasForm 5 = .ok (.aload_n 0, 1) := by decide +kernel
theorem dX5_hasForm_6 : decode cX5_hasForm 6 = .ok (.getfield 18, 3) := by decide +kernel
theorem dX5_hasForm_9 : decode cX5_hasForm 9 = .ok (.aload_n 0, 1) := by decide +kernel
theorem dX5_hasForm_10 : decode cX5_hasForm 10 = .ok (.getfield 44, 3) := by decide +kernel
theorem dX5_hasForm_13 : decode cX5_hasForm 13 = .ok (.invokevirtual 51, 3) := by decide +kernel
theorem dX5_hasForm_16 : decode cX5_hasForm 16 = .ok (.bipush 14, 2) := by decide +kernel
theorem dX5_hasForm_18 : decode cX5_hasForm 18 = .ok (.if_icmp .ne 12, 3) := by decide +kernel
theorem dX5_hasForm_21 : decode cX5_hasForm 21 = .ok (.aload_n 0, 1) := by decide +kernel
theorem dX5_hasForm_22 : decode cX5_hasForm 22 = .ok (.iconst 1, 1) := by decide +kernel
theorem dX5_hasForm_23 : decode cX5_hasForm 23 = .ok (.iconst 1, 1) := by decide +kernel
theorem dX5_hasForm_24 : decode cX5_hasForm 24 = .ok (.invokevirtual 54, 3) := by decide +kernel
theorem dX5_hasForm_27 : decode cX5_hasForm 27 = .ok (.ifCond .ne 5, 3) := by decide +kernel
theorem dX5_hasForm_30 : decode cX5_hasForm 30 = .ok (.iconst 0, 1) := by decide +kernel
theorem dX5_hasForm_31 : decode cX5_hasForm 31 = .ok (.ireturn, 1) := by decide +kernel
theorem dX5_hasForm_32 : decode cX5_hasForm 32 = .ok (.aload_n 0, 1) := by decide +kernel
theorem dX5_hasForm_33 : decode cX5_hasForm 33 = .ok (.iconst 2, 1) := by decide +kernel
theorem dX5_hasForm_34 : decode cX5_hasForm 34 = .ok (.iconst 3, 1) := by decide +kernel
theorem dX5_hasForm_35 : decode cX5_hasForm 35 = .ok (.invokevirtual 54, 3) := by decide +kernel
theorem dX5_hasForm_38 : decode cX5_hasForm 38 = .ok (.ifCond .eq 12, 3) := by decide +kernel
theorem dX5_hasForm_41 : decode cX5_hasForm 41 = .ok (.aload_n 0, 1) := by decide +kernel
theorem dX5_hasForm_42 : decode cX5_hasForm 42 = .ok (.iconst 4, 1) := by decide +kernel
theorem dX5_hasForm_43 : decode cX5_hasForm 43 = .ok (.iconst 1, 1) := by decide +kernel
theorem dX5_hasForm_44 : decode cX5_hasForm 44 = .ok (.invokevirtual 54, 3) := by decide +kernel
theorem dX5_hasForm_47 : decode cX5_hasForm 47 = .ok (.ifCond .ne 5, 3) := by decide +kernel
theorem dX5_hasForm_50 : decode cX5_hasForm 50 = .ok (.iconst 0, 1) := by decide +kernel
theorem dX5_hasForm_51 : decode cX5_hasForm 51 = .ok (.ireturn, 1) := by decide +kernel
theorem dX5_hasForm_52 : decode cX5_hasForm 52 = .ok (.iconst 0, 1) := by decide +kernel
theorem dX5_hasForm_53 : decode cX5_hasForm 53 = .ok (.istore_n 1, 1) := by decide +kernel
theorem dX5_hasForm_54 : decode cX5_hasForm 54 = .ok (.iload_n 1, 1) := by decide +kernel
theorem dX5_hasForm_55 : decode cX5_hasForm 55 = .ok (.aload_n 0, 1) := by decide +kernel
theorem dX5_hasForm_56 : decode cX5_hasForm 56 = .ok (.getfield 18, 3) := by decide +kernel
theorem dX5_hasForm_59 : decode cX5_hasForm 59 = .ok (.getfield 58, 3) := by decide +kernel
theorem dX5_hasForm_62 : decode cX5_hasForm 62 = .ok (.if_icmp .ge 41, 3) := by decide +kernel
theorem dX5_hasForm_65 : decode cX5_hasForm 65 = .ok (.aload_n 0, 1) := by decide +kernel
theorem dX5_hasForm_66 : decode cX5_hasForm 66 = .ok (.getfield 18, 3) := by decide +kernel
theorem dX5_hasForm_69 : decode cX5_hasForm 69 = .ok (.aload_n 0, 1) := by decide +kernel
theorem dX5_hasForm_70 : decode cX5_hasForm 70 = .ok (.getfield 44, 3) := by decide +kernel
theorem dX5_hasForm_73 : decode cX5_hasForm 73 = .ok (.invokevirtual 61, 3) := by decide +kernel
theorem dX5_hasForm_76 : decode cX5_hasForm 76 = .ok (.ifCond .eq 27, 3) := by decide +kernel
theorem dX5_hasForm_79 : decode cX5_hasForm 79 = .ok (.aload_n 0, 1) := by decide +kernel
theorem dX5_hasForm_80 : decode cX5_hasForm 80 = .ok (.invokevirtual 64, 3) := by decide +kernel
theorem dX5_hasForm_83 : decode cX5_hasForm 83 = .ok (.ifCond .eq 12, 3) := by decide +kernel
theorem dX5_hasForm_86 : decode cX5_hasForm 86 = .ok (.aload_n 0, 1) := by decide +kernel
theorem dX5_hasForm_87 : decode cX5_hasForm 87 = .ok (.iconst 4, 1) := by decide +kernel
theorem dX5_hasForm_88 : decode cX5_hasForm 88 = .ok (.iconst 1, 1) := by decide +kernel
theorem dX5_hasForm_89 : decode cX5_hasForm 89 = .ok (.invokevirtual 54, 3) := by decide +kernel
theorem dX5_hasForm_92 : decode cX5_hasForm 92 = .ok (.ifCond .ne 5, 3) := by decide +kernel
theorem dX5_hasForm_95 : decode cX5_hasForm 95 = .ok (.iconst 0, 1) := by decide +kernel
theorem dX5_hasForm_96 : decode cX5_hasForm 96 = .ok (.ireturn, 1) := by decide +kernel
theorem dX5_hasForm_97 : decode cX5_hasForm 97 = .ok (.iinc 1 1, 3) := by decide +kernel
theorem dX5_hasForm_100 : decode cX5_hasForm 100 = .ok (.goto (-46), 3) := by decide +kernel
theorem dX5_hasForm_103 : decode cX5_hasForm 103 = .ok (.iconst 1, 1) := by decide +kernel
theorem dX5_hasForm_104 : decode cX5_hasForm 104 = .ok (.ireturn, 1) := by decide +kernel
theorem dX5_passes_0 : decode cX5_passes 0 = .ok (.iconst 0, 1) := by decide +kernel
theorem dX5_passes_1 : decode cX5_passes 1 = .ok (.istore_n 3, 1) := by decide +kernel
theorem dX5_passes_2 : decode cX5_passes 2 = .ok (.iload_n 3, 1) := by decide +kernel
theorem dX5_passes_3 : decode cX5_passes 3 = .ok (.iload_n 2, 1) := by decide +kernel
theorem dX5_passes_4 : decode cX5_passes 4 = .ok (.if_icmp .ge 36, 3) := by decide +kernel
theorem dX5_passes_7 : decode cX5_passes 7 = .ok (.aload_n 0, 1) := by decide +kernel
theorem dX5_passes_8 : decode cX5_passes 8 = .ok (.getfield 18, 3) := by decide +kernel
theorem dX5_passes_11 : decode cX5_passes 11 = .ok (.aload_n 0, 1) := by decide +kernel
theorem dX5_passes_12 : decode cX5_passes 12 = .ok (.getfield 44, 3) := by decide +kernel
theorem dX5_passes_15 : decode cX5_passes 15 = .ok (.invokevirtual 61, 3) := by decide +kernel
theorem dX5_passes_18 : decode cX5_passes 18 = .ok (.iload_n 1, 1) := by decide +kernel
theorem dX5_passes_19 : decode cX5_passes 19 = .ok (.if_icmp .eq 5, 3) := by decide +kernel
theorem dX5_passes_22 : decode cX5_passes 22 = .ok (.iconst 0, 1) := by decide +kernel
theorem dX5_passes_23 : decode cX5_passes 23 = .ok (.ireturn, 1) := by decide +kernel
theorem dX5_passes_24 : decode cX5_passes 24 = .ok (.aload_n 0, 1) := by decide +kernel
theorem dX5_passes_25 : decode cX5_passes 25 = .ok (.dup, 1) := by decide +kernel
theorem dX5_passes_26 : decode cX5_passes 26 = .ok (.getfield 44, 3) := by decide +kernel
theorem dX5_passes_29 : decode cX5_passes 29 = .ok (.iconst 1, 1) := by decide +kernel
theorem dX5_passes_30 : decode cX5_passes 30 = .ok (.iadd, 1) := by decide +kernel
theorem dX5_passes_31 : decode cX5_passes 31 = .ok (.putfield 44, 3) := by decide +kernel
theorem dX5_passes_34 : decode cX5_passes 34 = .ok (.iinc 3 1, 3) := by decide +kernel
theorem dX5_passes_37 : decode cX5_passes 37 = .ok (.goto (-35), 3) := by decide +kernel
theorem dX5_passes_40 : decode cX5_passes 40 = .ok (.iconst 1, 1) := by decide +kernel
theorem dX5_passes_41 : decode cX5_passes 41 = .ok (.ireturn, 1) := by decide +kernel
theorem dX5_passesRule_0 : decode cX5_passesRule 0 = .ok (.aload_n 0, 1) := by decide +kernel
theorem dX5_passesRule_1 : decode cX5_passesRule 1 = .ok (.getfield 18, 3) := by decide +kernel
theorem dX5_passesRule_4 : decode cX5_passesRule 4 = .ok (.aload_n 0, 1) := by decide +kernel
theorem dX5_passesRule_5 : decode cX5_passesRule 5 = .ok (.getfield 44, 3) := by decide +kernel
theorem dX5_passesRule_8 : decode cX5_passesRule 8 = .ok (.invokevirtual 51, 3) := by decide +kernel
theorem dX5_passesRule_11 : decode cX5_passesRule 11 = .ok (.istore_n 1, 1) := by decide +kernel
theorem dX5_passesRule_12 : decode cX5_passesRule 12 = .ok (.aload_n 0, 1) := by decide +kernel
theorem dX5_passesRule_13 : decode cX5_passesRule 13 = .ok (.getfield 18, 3) := by decide +kernel
theorem dX5_passesRule_16 : decode cX5_passesRule 16 = .ok (.aload_n 0, 1) := by decide +kernel
theorem dX5_passesRule_17 : decode cX5_passesRule 17 = .ok (.getfield 44, 3) := by decide +kernel
theorem dX5_passesRule_20 : decode cX5_passesRule 20 = .ok (.invokevirtual 61, 3) := by decide +kernel
theorem dX5_passesRule_23 : decode cX5_passesRule 23 = .ok (.iconst 1, 1) := by decide +kernel
theorem dX5_passesRule_24 : decode cX5_passesRule 24 = .ok (.if_icmp .ne 9, 3) := by decide +kernel
theorem dX5_passesRule_27 : decode cX5_passesRule 27 = .ok (.iload_n 1, 1) := by decide +kernel
theorem dX5_passesRule_28 : decode cX5_passesRule 28 = .ok (.bipush 14, 2) := by decide +kernel
theorem dX5_passesRule_30 : decode cX5_passesRule 30 = .ok (.if_icmp .ne 5, 3) := by decide +kernel
theorem dX5_passesRule_33 : decode cX5_passesRule 33 = .ok (.iconst 0, 1) := by decide +kernel
theorem dX5_passesRule_34 : decode cX5_passesRule 34 = .ok (.ireturn, 1) := by decide +kernel
theorem dX5_passesRule_35 : decode cX5_passesRule 35 = .ok (.aload_n 0, 1) := by decide +kernel
theorem dX5_passesRule_36 : decode cX5_passesRule 36 = .ok (.dup, 1) := by decide +kernel
theorem dX5_passesRule_37 : decode cX5_passesRule 37 = .ok (.getfield 44, 3) := by decide +kernel
theorem dX5_passesRule_40 : decode cX5_passesRule 40 = .ok (.iconst 1, 1) := by decide +kernel
theorem dX5_passesRule_41 : decode cX5_passesRule 41 = .ok (.iadd, 1) := by decide +kernel
theorem dX5_passesRule_42 : decode cX5_passesRule 42 = .ok (.putfield 44, 3) := by decide +kernel
theorem dX5_passesRule_45 : decode cX5_passesRule 45 = .ok (.iload_n 1, 1) := by decide +kernel
theorem dX5_passesRule_46 : decode cX5_passesRule 46 = .ok (.ifCond .lt 11, 3) := by decide +kernel
theorem dX5_passesRule_49 : decode cX5_passesRule 49 = .ok (.iload_n 1, 1) := by decide +kernel
theorem dX5_passesRule_50 : decode cX5_passesRule 50 = .ok (.getstatic 67, 3) := by decide +kernel
theorem dX5_passesRule_53 : decode cX5_passesRule 53 = .ok (.arraylength, 1) := by decide +kernel
theorem dX5_passesRule_54 : decode cX5_passesRule 54 = .ok (.if_icmp .lt 5, 3) := by decide +kernel
theorem dX5_passesRule_57 : decode cX5_passesRule 57 = .ok (.iconst 1, 1) := by decide +kernel
theorem dX5_passesRule_58 : decode cX5_passesRule 58 = .ok (.ireturn, 1) := by decide +kernel
theorem dX5_passesRule_59 : decode cX5_passesRule 59 = .ok (.getstatic 67, 3) := by decide +kernel
theorem dX5_passesRule_62 : decode cX5_passesRule 62 = .ok (.iload_n 1, 1) := by decide +kernel
theorem dX5_passesRule_63 : decode cX5_passesRule 63 = .ok (.aaload, 1) := by decide +kernel
theorem dX5_passesRule_64 : decode cX5_passesRule 64 = .ok (.astore_n 2, 1) := by decide +kernel
theorem dX5_passesRule_65 : decode cX5_passesRule 65 = .ok (.aload_n 0, 1) := by decide +kernel
theorem dX5_passesRule_66 : decode cX5_passesRule 66 = .ok (.iconst 2, 1) := by decide +kernel
theorem dX5_passesRule_67 : decode cX5_passesRule 67 = .ok (.aload_n 2, 1) := by decide +kernel
theorem dX5_passesRule_68 : decode cX5_passesRule 68 = .ok (.getfield 73, 3) := by decide +kernel
theorem dX5_passesRule_71 : decode cX5_passesRule 71 = .ok (.invokevirtual 54, 3) := by decide +kernel
theorem dX5_passesRule_74 : decode cX5_passesRule 74 = .ok (.ifCond .eq 38, 3) := by decide +kernel
theorem dX5_passesRule_77 : decode cX5_passesRule 77 = .ok (.aload_n 0, 1) := by decide +kernel
theorem dX5_passesRule_78 : decode cX5_passesRule 78 = .ok (.aload_n 2, 1) := by decide +kernel
theorem dX5_passesRule_79 : decode cX5_passesRule 79 = .ok (.getfield 76, 3) := by decide +kernel
theorem dX5_passesRule_82 : decode cX5_passesRule 82 = .ok (.invokevirtual 79, 3) := by decide +kernel
theorem dX5_passesRule_85 : decode cX5_passesRule 85 = .ok (.ifCond .eq 27, 3) := by decide +kernel
theorem dX5_passesRule_88 : decode cX5_passesRule 88 = .ok (.aload_n 0, 1) := by decide +kernel
theorem dX5_passesRule_89 : decode cX5_passesRule 89 = .ok (.iconst 2, 1) := by decide +kernel
theorem dX5_passesRule_90 : decode cX5_passesRule 90 = .ok (.aload_n 2, 1) := by decide +kernel
theorem dX5_passesRule_91 : decode cX5_passesRule 91 = .ok (.getstatic 82, 3) := by decide +kernel
theorem dX5_passesRule_94 : decode cX5_passesRule 94 = .ok (.if_acmp .ne 7, 3) := by decide +kernel
theorem dX5_passesRule_97 : decode cX5_passesRule 97 = .ok (.iconst 1, 1) := by decide +kernel
theorem dX5_passesRule_98 : decode cX5_passesRule 98 = .ok (.goto 4, 3) := by decide +kernel
theorem dX5_passesRule_101 : decode cX5_passesRule 101 = .ok (.iconst 0, 1) := by decide +kernel
theorem dX5_passesRule_102 : decode cX5_passesRule 102 = .ok (.invokevirtual 54, 3) := by decide +kernel
theorem dX5_passesRule_105 : decode cX5_passesRule 105 = .ok (.ifCond .eq 7, 3) := by decide +kernel
theorem dX5_passesRule_108 : decode cX5_passesRule 108 = .ok (.iconst 1, 1) := by decide +kernel
theorem dX5_passesRule_109 : decode cX5_passesRule 109 = .ok (.goto 4, 3) := by decide +kernel
theorem dX5_passesRule_112 : decode cX5_passesRule 112 = .ok (.iconst 0, 1) := by decide +kernel
theorem dX5_passesRule_113 : decode cX5_passesRule 113 = .ok (.ireturn, 1) := by decide +kernel
theorem dX5_passesCells_0 : decode cX5_passesCells 0 = .ok (.iload_n 1, 1) := by decide +kernel
theorem dX5_passesCells_1 : decode cX5_passesCells 1 = .ok (.ifCond .le 10, 3) := by decide +kernel
theorem dX5_passesCells_4 : decode cX5_passesCells 4 = .ok (.aload_n 0, 1) := by decide +kernel
theorem dX5_passesCells_5 : decode cX5_passesCells 5 = .ok (.iconst 3, 1) := by decide +kernel
theorem dX5_passesCells_6 : decode cX5_passesCells 6 = .ok (.iload_n 1, 1) := by decide +kernel
theorem dX5_passesCells_7 : decode cX5_passesCells 7 = .ok (.invokevirtual 54, 3) := by decide +kernel
theorem dX5_passesCells_10 : decode cX5_passesCells 10 = .ok (.ireturn, 1) := by decide +kernel
theorem dX5_passesCells_11 : decode cX5_passesCells 11 = .ok (.aload_n 0, 1) := by decide +kernel
theorem dX5_passesCells_12 : decode cX5_passesCells 12 = .ok (.iconst 3, 1) := by decide +kernel
theorem dX5_passesCells_13 : decode cX5_passesCells 13 = .ok (.iconst 1, 1) := by decide +kernel
theorem dX5_passesCells_14 : decode cX5_passesCells 14 = .ok (.invokevirtual 54, 3) := by decide +kernel
theorem dX5_passesCells_17 : decode cX5_passesCells 17 = .ok (.ifCond .ne 5, 3) := by decide +kernel
theorem dX5_passesCells_20 : decode cX5_passesCells 20 = .ok (.iconst 0, 1) := by decide +kernel
theorem dX5_passesCells_21 : decode cX5_passesCells 21 = .ok (.ireturn, 1) := by decide +kernel
theorem dX5_passesCells_22 : decode cX5_passesCells 22 = .ok (.iconst 0, 1) := by decide +kernel
theorem dX5_passesCells_23 : decode cX5_passesCells 23 = .ok (.istore_n 2, 1) := by decide +kernel
theorem dX5_passesCells_24 : decode cX5_passesCells 24 = .ok (.iload_n 2, 1) := by decide +kernel
theorem dX5_passesCells_25 : decode cX5_passesCells 25 = .ok (.aload_n 0, 1) := by decide +kernel
theorem dX5_passesCells_26 : decode cX5_passesCells 26 = .ok (.getfield 18, 3) := by decide +kernel
theorem dX5_passesCells_29 : decode cX5_passesCells 29 = .ok (.getfield 58, 3) := by decide +kernel
theorem dX5_passesCells_32 : decode cX5_passesCells 32 = .ok (.if_icmp .ge 34, 3) := by decide +kernel
theorem dX5_passesCells_35 : decode cX5_passesCells 35 = .ok (.aload_n 0, 1) := by decide +kernel
theorem dX5_passesCells_36 : decode cX5_passesCells 36 = .ok (.getfield 18, 3) := by decide +kernel
theorem dX5_passesCells_39 : decode cX5_passesCells 39 = .ok (.aload_n 0, 1) := by decide +kernel
theorem dX5_passesCells_40 : decode cX5_passesCells 40 = .ok (.getfield 44, 3) := by decide +kernel
theorem dX5_passesCells_43 : decode cX5_passesCells 43 = .ok (.invokevirtual 61, 3) := by decide +kernel
theorem dX5_passesCells_46 : decode cX5_passesCells 46 = .ok (.iconst 3, 1) := by decide +kernel
theorem dX5_passesCells_47 : decode cX5_passesCells 47 = .ok (.if_icmp .ne 19, 3) := by decide +kernel
theorem dX5_passesCells_50 : decode cX5_passesCells 50 = .ok (.aload_n 0, 1) := by decide +kernel
theorem dX5_passesCells_51 : decode cX5_passesCells 51 = .ok (.dup, 1) := by decide +kernel
theorem dX5_passesCells_52 : decode cX5_passesCells 52 = .ok (.getfield 44, 3) := by decide +kernel
theorem dX5_passesCells_55 : decode cX5_passesCells 55 = .ok (.iconst 1, 1) := by decide +kernel
theorem dX5_passesCells_56 : decode cX5_passesCells 56 = .ok (.iadd, 1) := by decide +kernel
theorem dX5_passesCells_57 : decode cX5_passesCells 57 = .ok (.putfield 44, 3) := by decide +kernel
theorem dX5_passesCells_60 : decode cX5_passesCells 60 = .ok (.iinc 2 1, 3) := by decide +kernel
theorem dX5_passesCells_63 : decode cX5_passesCells 63 = .ok (.goto (-39), 3) := by decide +kernel
theorem dX5_passesCells_66 : decode cX5_passesCells 66 = .ok (.iconst 1, 1) := by decide +kernel
theorem dX5_passesCells_67 : decode cX5_passesCells 67 = .ok (.ireturn, 1) := by decide +kernel
theorem dX5_readSizes_0 : decode cX5_readSizes 0 = .ok (.aload_n 0, 1) := by decide +kernel
theorem dX5_readSizes_1 : decode cX5_readSizes 1 = .ok (.iconst 1, 1) := by decide +kernel
theorem dX5_readSizes_2 : decode cX5_readSizes 2 = .ok (.putfield 44, 3) := by decide +kernel
theorem dX5_readSizes_5 : decode cX5_readSizes 5 = .ok (.aload_n 0, 1) := by decide +kernel
theorem dX5_readSizes_6 : decode cX5_readSizes 6 = .ok (.getfield 44, 3) := by decide +kernel
theorem dX5_readSizes_9 : decode cX5_readSizes 9 = .ok (.iconst 3, 1) := by decide +kernel
theorem dX5_readSizes_10 : decode cX5_readSizes 10 = .ok (.if_icmp .gt 44, 3) := by decide +kernel
theorem dX5_readSizes_13 : decode cX5_readSizes 13 = .ok (.aload_n 0, 1) := by decide +kernel
theorem dX5_readSizes_14 : decode cX5_readSizes 14 = .ok (.getfield 18, 3) := by decide +kernel
theorem dX5_readSizes_17 : decode cX5_readSizes 17 = .ok (.aload_n 0, 1) := by decide +kernel
theorem dX5_readSizes_18 : decode cX5_readSizes 18 = .ok (.getfield 44, 3) := by decide +kernel
theorem dX5_readSizes_21 : decode cX5_readSizes 21 = .ok (.invokevirtual 51, 3) := by decide +kernel
theorem dX5_readSizes_24 : decode cX5_readSizes 24 = .ok (.istore_n 2, 1) := by decide +kernel
theorem dX5_readSizes_25 : decode cX5_readSizes 25 = .ok (.iload_n 2, 1) := by decide +kernel
theorem dX5_readSizes_26 : decode cX5_readSizes 26 = .ok (.iconst 2, 1) := by decide +kernel
theorem dX5_readSizes_27 : decode cX5_readSizes 27 = .ok (.if_icmp .lt 8, 3) := by decide +kernel
theorem dX5_readSizes_30 : decode cX5_readSizes 30 = .ok (.iload_n 2, 1) := by decide +kernel
theorem dX5_readSizes_31 : decode cX5_readSizes 31 = .ok (.iconst 5, 1) := by decide +kernel
theorem dX5_readSizes_32 : decode cX5_readSizes 32 = .ok (.if_icmp .le 9, 3) := by decide +kernel
theorem dX5_readSizes_35 : decode cX5_readSizes 35 = .ok (.aload_n 0, 1) := by decide +kernel
theorem dX5_readSizes_36 : decode cX5_readSizes 36 = .ok (.iconst 2, 1) := by decide +kernel
theorem dX5_readSizes_37 : decode cX5_readSizes 37 = .ok (.invokevirtual 33, 3) := by decide +kernel
theorem dX5_readSizes_40 : decode cX5_readSizes 40 = .ok (.ireturn, 1) := by decide +kernel
theorem dX5_readSizes_41 : decode cX5_readSizes 41 = .ok (.aload_n 0, 1) := by decide +kernel
theorem dX5_readSizes_42 : decode cX5_readSizes 42 = .ok (.dup, 1) := by decide +kernel
theorem dX5_readSizes_43 : decode cX5_readSizes 43 = .ok (.getfield 44, 3) := by decide +kernel
theorem dX5_readSizes_46 : decode cX5_readSizes 46 = .ok (.iconst 1, 1) := by decide +kernel
theorem dX5_readSizes_47 : decode cX5_readSizes 47 = .ok (.iadd, 1) := by decide +kernel
theorem dX5_readSizes_48 : decode cX5_readSizes 48 = .ok (.putfield 44, 3) := by decide +kernel
theorem dX5_readSizes_51 : decode cX5_readSizes 51 = .ok (.goto (-46), 3) := by decide +kernel
theorem dX5_readSizes_54 : decode cX5_readSizes 54 = .ok (.aload_n 1, 1) := by decide +kernel
theorem dX5_readSizes_55 : decode cX5_readSizes 55 = .ok (.aload_n 0, 1) := by decide +kernel
theorem dX5_readSizes_56 : decode cX5_readSizes 56 = .ok (.getfield 18, 3) := by decide +kernel
theorem dX5_readSizes_59 : decode cX5_readSizes 59 = .ok (.iconst 1, 1) := by decide +kernel
theorem dX5_readSizes_60 : decode cX5_readSizes 60 = .ok (.invokevirtual 51, 3) := by decide +kernel
theorem dX5_readSizes_63 : decode cX5_readSizes 63 = .ok (.aload_n 0, 1) := by decide +kernel
theorem dX5_readSizes_64 : decode cX5_readSizes 64 = .ok (.getfield 18, 3) := by decide +kernel
theorem dX5_readSizes_67 : decode cX5_readSizes 67 = .ok (.iconst 2, 1) := by decide +kernel
theorem dX5_readSizes_68 : decode cX5_readSizes 68 = .ok (.invokevirtual 51, 3) := by decide +kernel
theorem dX5_readSizes_71 : decode cX5_readSizes 71 = .ok (.aload_n 0, 1) := by decide +kernel
theorem dX5_readSizes_72 : decode cX5_readSizes 72 = .ok (.getfield 18, 3) := by decide +kernel
theorem dX5_readSizes_75 : decode cX5_readSizes 75 = .ok (.iconst 3, 1) := by decide +kernel
theorem dX5_readSizes_76 : decode cX5_readSizes 76 = .ok (.invokevirtual 51, 3) := by decide +kernel
theorem dX5_readSizes_79 : decode cX5_readSizes 79 = .ok (.invokevirtual 86, 3) := by decide +kernel
theorem dX5_readSizes_82 : decode cX5_readSizes 82 = .ok (.iconst 1, 1) := by decide +kernel
theorem dX5_readSizes_83 : decode cX5_readSizes 83 = .ok (.ireturn, 1) := by decide +kernel
theorem dX5_readRules_0 : decode cX5_readRules 0 = .ok (.aload_n 0, 1) := by decide +kernel
theorem dX5_readRules_1 : decode cX5_readRules 1 = .ok (.iconst 5, 1) := by decide +kernel
theorem dX5_readRules_2 : decode cX5_readRules 2 = .ok (.putfield 44, 3) := by decide +kernel
theorem dX5_readRules_5 : decode cX5_readRules 5 = .ok (.iconst 0, 1) := by decide +kernel
theorem dX5_readRules_6 : decode cX5_readRules 6 = .ok (.istore_n 2, 1) := by decide +kernel
theorem dX5_readRules_7 : decode cX5_readRules 7 = .ok (.iload_n 2, 1) := by decide +kernel
theorem dX5_readRules_8 : decode cX5_readRules 8 = .ok (.aload_n 0, 1) := by decide +kernel
theorem dX5_readRules_9 : decode cX5_readRules 9 = .ok (.getfield 18, 3) := by decide +kernel
theorem dX5_readRules_12 : decode cX5_readRules 12 = .ok (.getfield 58, 3) := by decide +kernel
theorem dX5_readRules_15 : decode cX5_readRules 15 = .ok (.if_icmp .ge 44, 3) := by decide +kernel
theorem dX5_readRules_18 : decode cX5_readRules 18 = .ok (.aload_n 0, 1) := by decide +kernel
theorem dX5_readRules_19 : decode cX5_readRules 19 = .ok (.getfield 18, 3) := by decide +kernel
theorem dX5_readRules_22 : decode cX5_readRules 22 = .ok (.aload_n 0, 1) := by decide +kernel
theorem dX5_readRules_23 : decode cX5_readRules 23 = .ok (.getfield 44, 3) := by decide +kernel
theorem dX5_readRules_26 : decode cX5_readRules 26 = .ok (.invokevirtual 61, 3) := by decide +kernel
theorem dX5_readRules_29 : decode cX5_readRules 29 = .ok (.iconst 1, 1) := by decide +kernel
theorem dX5_readRules_30 : decode cX5_readRules 30 = .ok (.if_icmp .ne 29, 3) := by decide +kernel
theorem dX5_readRules_33 : decode cX5_readRules 33 = .ok (.aload_n 0, 1) := by decide +kernel
theorem dX5_readRules_34 : decode cX5_readRules 34 = .ok (.aload_n 1, 1) := by decide +kernel
theorem dX5_readRules_35 : decode cX5_readRules 35 = .ok (.invokevirtual 92, 3) := by decide +kernel
theorem dX5_readRules_38 : decode cX5_readRules 38 = .ok (.ifCond .ne 5, 3) := by decide +kernel
theorem dX5_readRules_41 : decode cX5_readRules 41 = .ok (.iconst 0, 1) := by decide +kernel
theorem dX5_readRules_42 : decode cX5_readRules 42 = .ok (.ireturn, 1) := by decide +kernel
theorem dX5_readRules_43 : decode cX5_readRules 43 = .ok (.aload_n 0, 1) := by decide +kernel
theorem dX5_readRules_44 : decode cX5_readRules 44 = .ok (.dup, 1) := by decide +kernel
theorem dX5_readRules_45 : decode cX5_readRules 45 = .ok (.getfield 44, 3) := by decide +kernel
theorem dX5_readRules_48 : decode cX5_readRules 48 = .ok (.iconst 1, 1) := by decide +kernel
theorem dX5_readRules_49 : decode cX5_readRules 49 = .ok (.iadd, 1) := by decide +kernel
theorem dX5_readRules_50 : decode cX5_readRules 50 = .ok (.putfield 44, 3) := by decide +kernel
theorem dX5_readRules_53 : decode cX5_readRules 53 = .ok (.iinc 2 1, 3) := by decide +kernel
theorem dX5_readRules_56 : decode cX5_readRules 56 = .ok (.goto (-49), 3) := by decide +kernel
theorem dX5_readRules_59 : decode cX5_readRules 59 = .ok (.iconst 1, 1) := by decide +kernel
theorem dX5_readRules_60 : decode cX5_readRules 60 = .ok (.ireturn, 1) := by decide +kernel
theorem dX5_readRule_0 : decode cX5_readRule 0 = .ok (.aload_n 0, 1) := by decide +kernel
theorem dX5_readRule_1 : decode cX5_readRule 1 = .ok (.getfield 18, 3) := by decide +kernel
theorem dX5_readRule_4 : decode cX5_readRule 4 = .ok (.aload_n 0, 1) := by decide +kernel
theorem dX5_readRule_5 : decode cX5_readRule 5 = .ok (.getfield 44, 3) := by decide +kernel
theorem dX5_readRule_8 : decode cX5_readRule 8 = .ok (.invokevirtual 51, 3) := by decide +kernel
theorem dX5_readRule_11 : decode cX5_readRule 11 = .ok (.istore_n 2, 1) := by decide +kernel
theorem dX5_readRule_12 : decode cX5_readRule 12 = .ok (.aload_n 1, 1) := by decide +kernel
theorem dX5_readRule_13 : decode cX5_readRule 13 = .ok (.getfield 95, 3) := by decide +kernel
theorem dX5_readRule_16 : decode cX5_readRule 16 = .ok (.iload_n 2, 1) := by decide +kernel
theorem dX5_readRule_17 : decode cX5_readRule 17 = .ok (.aload_n 1, 1) := by decide +kernel
theorem dX5_readRule_18 : decode cX5_readRule 18 = .ok (.invokestatic 98, 3) := by decide +kernel
theorem dX5_readRule_21 : decode cX5_readRule 21 = .ok (.iadd, 1) := by decide +kernel
theorem dX5_readRule_22 : decode cX5_readRule 22 = .ok (.bipush 40, 2) := by decide +kernel
theorem dX5_readRule_24 : decode cX5_readRule 24 = .ok (.if_icmp .le 9, 3) := by decide +kernel
theorem dX5_readRule_27 : decode cX5_readRule 27 = .ok (.aload_n 0, 1) := by decide +kernel
theorem dX5_readRule_28 : decode cX5_readRule 28 = .ok (.iconst 4, 1) := by decide +kernel
theorem dX5_readRule_29 : decode cX5_readRule 29 = .ok (.invokevirtual 33, 3) := by decide +kernel
theorem dX5_readRule_32 : decode cX5_readRule 32 = .ok (.ireturn, 1) := by decide +kernel
theorem dX5_readRule_33 : decode cX5_readRule 33 = .ok (.iload_n 2, 1) := by decide +kernel
theorem dX5_readRule_34 : decode cX5_readRule 34 = .ok (.bipush 12, 2) := by decide +kernel
theorem dX5_readRule_36 : decode cX5_readRule 36 = .ok (.if_icmp .ne 19, 3) := by decide +kernel
theorem dX5_readRule_39 : decode cX5_readRule 39 = .ok (.aload_n 1, 1) := by decide +kernel
theorem dX5_readRule_40 : decode cX5_readRule 40 = .ok (.invokevirtual 102, 3) := by decide +kernel
theorem dX5_readRule_43 : decode cX5_readRule 43 = .ok (.aload_n 0, 1) := by decide +kernel
theorem dX5_readRule_44 : decode cX5_readRule 44 = .ok (.dup, 1) := by decide +kernel
theorem dX5_readRule_45 : decode cX5_readRule 45 = .ok (.getfield 44, 3) := by decide +kernel
theorem dX5_readRule_48 : decode cX5_readRule 48 = .ok (.iconst 1, 1) := by decide +kernel
theorem dX5_readRule_49 : decode cX5_readRule 49 = .ok (.iadd, 1) := by decide +kernel
theorem dX5_readRule_50 : decode cX5_readRule 50 = .ok (.putfield 44, 3) := by decide +kernel
theorem dX5_readRule_53 : decode cX5_readRule 53 = .ok (.iconst 1, 1) := by decide +kernel
theorem dX5_readRule_54 : decode cX5_readRule 54 = .ok (.ireturn, 1) := by decide +kernel
theorem dX5_readRule_55 : decode cX5_readRule 55 = .ok (.iload_n 2, 1) := by decide +kernel
theorem dX5_readRule_56 : decode cX5_readRule 56 = .ok (.bipush 13, 2) := by decide +kernel
theorem dX5_readRule_58 : decode cX5_readRule 58 = .ok (.if_icmp .ne 19, 3) := by decide +kernel
theorem dX5_readRule_61 : decode cX5_readRule 61 = .ok (.aload_n 1, 1) := by decide +kernel
theorem dX5_readRule_62 : decode cX5_readRule 62 = .ok (.invokevirtual 105, 3) := by decide +kernel
theorem dX5_readRule_65 : decode cX5_readRule 65 = .ok (.aload_n 0, 1) := by decide +kernel
theorem dX5_readRule_66 : decode cX5_readRule 66 = .ok (.dup, 1) := by decide +kernel
theorem dX5_readRule_67 : decode cX5_readRule 67 = .ok (.getfield 44, 3) := by decide +kernel
theorem dX5_readRule_70 : decode cX5_readRule 70 = .ok (.iconst 1, 1) := by decide +kernel
theorem dX5_readRule_71 : decode cX5_readRule 71 = .ok (.iadd, 1) := by decide +kernel
theorem dX5_readRule_72 : decode cX5_readRule 72 = .ok (.putfield 44, 3) := by decide +kernel
theorem dX5_readRule_75 : decode cX5_readRule 75 = .ok (.iconst 1, 1) := by decide +kernel
theorem dX5_readRule_76 : decode cX5_readRule 76 = .ok (.ireturn, 1) := by decide +kernel
theorem dX5_readRule_77 : decode cX5_readRule 77 = .ok (.iload_n 2, 1) := by decide +kernel
theorem dX5_readRule_78 : decode cX5_readRule 78 = .ok (.ifCond .lt 11, 3) := by decide +kernel
theorem dX5_readRule_81 : decode cX5_readRule 81 = .ok (.iload_n 2, 1) := by decide +kernel
theorem dX5_readRule_82 : decode cX5_readRule 82 = .ok (.getstatic 67, 3) := by decide +kernel
theorem dX5_readRule_85 : decode cX5_readRule 85 = .ok (.arraylength, 1) := by decide +kernel
theorem dX5_readRule_86 : decode cX5_readRule 86 = .ok (.if_icmp .lt 9, 3) := by decide +kernel
theorem dX5_readRule_89 : decode cX5_readRule 89 = .ok (.aload_n 0, 1) := by decide +kernel
theorem dX5_readRule_90 : decode cX5_readRule 90 = .ok (.iconst 1, 1) := by decide +kernel
theorem dX5_readRule_91 : decode cX5_readRule 91 = .ok (.invokevirtual 33, 3) := by decide +kernel
theorem dX5_readRule_94 : decode cX5_readRule 94 = .ok (.ireturn, 1) := by decide +kernel
theorem dX5_readRule_95 : decode cX5_readRule 95 = .ok (.aload_n 0, 1) := by decide +kernel
theorem dX5_readRule_96 : decode cX5_readRule 96 = .ok (.dup, 1) := by decide +kernel
theorem dX5_readRule_97 : decode cX5_readRule 97 = .ok (.getfield 44, 3) := by decide +kernel
theorem dX5_readRule_100 : decode cX5_readRule 100 = .ok (.iconst 1, 1) := by decide +kernel
theorem dX5_readRule_101 : decode cX5_readRule 101 = .ok (.iadd, 1) := by decide +kernel
theorem dX5_readRule_102 : decode cX5_readRule 102 = .ok (.putfield 44, 3) := by decide +kernel
theorem dX5_readRule_105 : decode cX5_readRule 105 = .ok (.aload_n 1, 1) := by decide +kernel
theorem dX5_readRule_106 : decode cX5_readRule 106 = .ok (.getstatic 67, 3) := by decide +kernel
theorem dX5_readRule_109 : decode cX5_readRule 109 = .ok (.iload_n 2, 1) := by decide +kernel
theorem dX5_readRule_110 : decode cX5_readRule 110 = .ok (.aaload, 1) := by decide +kernel
theorem dX5_readRule_111 : decode cX5_readRule 111 = .ok (.invokevirtual 108, 3) := by decide +kernel
theorem dX5_readRule_114 : decode cX5_readRule 114 = .ok (.astore_n 3, 1) := by decide +kernel
theorem dX5_readRule_115 : decode cX5_readRule 115 = .ok (.aload_n 3, 1) := by decide +kernel
theorem dX5_readRule_116 : decode cX5_readRule 116 = .ok (.getfield 112, 3) := by decide +kernel
theorem dX5_readRule_119 : decode cX5_readRule 119 = .ok (.getfield 73, 3) := by decide +kernel
theorem dX5_readRule_122 : decode cX5_readRule 122 = .ok (.iconst 1, 1) := by decide +kernel
theorem dX5_readRule_123 : decode cX5_readRule 123 = .ok (.if_icmp .lt 12, 3) := by decide +kernel
theorem dX5_readRule_126 : decode cX5_readRule 126 = .ok (.aload_n 0, 1) := by decide +kernel
theorem dX5_readRule_127 : decode cX5_readRule 127 = .ok (.aload_n 1, 1) := by decide +kernel
theorem dX5_readRule_128 : decode cX5_readRule 128 = .ok (.aload_n 3, 1) := by decide +kernel
theorem dX5_readRule_129 : decode cX5_readRule 129 = .ok (.invokevirtual 117, 3) := by decide +kernel
theorem dX5_readRule_132 : decode cX5_readRule 132 = .ok (.ifCond .eq 54, 3) := by decide +kernel
theorem dX5_readRule_135 : decode cX5_readRule 135 = .ok (.aload_n 3, 1) := by decide +kernel
theorem dX5_readRule_136 : decode cX5_readRule 136 = .ok (.getfield 112, 3) := by decide +kernel
theorem dX5_readRule_139 : decode cX5_readRule 139 = .ok (.getfield 73, 3) := by decide +kernel
theorem dX5_readRule_142 : decode cX5_readRule 142 = .ok (.iconst 2, 1) := by decide +kernel
theorem dX5_readRule_143 : decode cX5_readRule 143 = .ok (.if_icmp .lt 11, 3) := by decide +kernel
theorem dX5_readRule_146 : decode cX5_readRule 146 = .ok (.aload_n 0, 1) := by decide +kernel
theorem dX5_readRule_147 : decode cX5_readRule 147 = .ok (.aload_n 3, 1) := by decide +kernel
theorem dX5_readRule_148 : decode cX5_readRule 148 = .ok (.invokevirtual 121, 3) := by decide +kernel
theorem dX5_readRule_151 : decode cX5_readRule 151 = .ok (.ifCond .eq 35, 3) := by decide +kernel
theorem dX5_readRule_154 : decode cX5_readRule 154 = .ok (.aload_n 0, 1) := by decide +kernel
theorem dX5_readRule_155 : decode cX5_readRule 155 = .ok (.aload_n 1, 1) := by decide +kernel
theorem dX5_readRule_156 : decode cX5_readRule 156 = .ok (.aload_n 3, 1) := by decide +kernel
theorem dX5_readRule_157 : decode cX5_readRule 157 = .ok (.invokevirtual 125, 3) := by decide +kernel
theorem dX5_readRule_160 : decode cX5_readRule 160 = .ok (.ifCond .eq 26, 3) := by decide +kernel
theorem dX5_readRule_163 : decode cX5_readRule 163 = .ok (.aload_n 3, 1) := by decide +kernel
theorem dX5_readRule_164 : decode cX5_readRule 164 = .ok (.getfield 112, 3) := by decide +kernel
theorem dX5_readRule_167 : decode cX5_readRule 167 = .ok (.getstatic 82, 3) := by decide +kernel
theorem dX5_readRule_170 : decode cX5_readRule 170 = .ok (.if_acmp .ne 12, 3) := by decide +kernel
theorem dX5_readRule_173 : decode cX5_readRule 173 = .ok (.aload_n 0, 1) := by decide +kernel
theorem dX5_readRule_174 : decode cX5_readRule 174 = .ok (.aload_n 1, 1) := by decide +kernel
theorem dX5_readRule_175 : decode cX5_readRule 175 = .ok (.aload_n 3, 1) := by decide +kernel
theorem dX5_readRule_176 : decode cX5_readRule 176 = .ok (.invokevirtual 117, 3) := by decide +kernel
theorem dX5_readRule_179 : decode cX5_readRule 179 = .ok (.ifCond .eq 7, 3) := by decide +kernel
theorem dX5_readRule_182 : decode cX5_readRule 182 = .ok (.iconst 1, 1) := by decide +kernel
theorem dX5_readRule_183 : decode cX5_readRule 183 = .ok (.goto 4, 3) := by decide +kernel
theorem dX5_readRule_186 : decode cX5_readRule 186 = .ok (.iconst 0, 1) := by decide +kernel
theorem dX5_readRule_187 : decode cX5_readRule 187 = .ok (.ireturn, 1) := by decide +kernel
theorem dX5_rulesOf_0 : decode cX5_rulesOf 0 = .ok (.iload_n 0, 1) := by decide +kernel
theorem dX5_rulesOf_1 : decode cX5_rulesOf 1 = .ok (.bipush 12, 2) := by decide +kernel
theorem dX5_rulesOf_3 : decode cX5_rulesOf 3 = .ok (.if_icmp .ne 8, 3) := by decide +kernel
theorem dX5_rulesOf_6 : decode cX5_rulesOf 6 = .ok (.aload_n 1, 1) := by decide +kernel
theorem dX5_rulesOf_7 : decode cX5_rulesOf 7 = .ok (.getfield 128, 3) := by decide +kernel
theorem dX5_rulesOf_10 : decode cX5_rulesOf 10 = .ok (.ireturn, 1) := by decide +kernel
theorem dX5_rulesOf_11 : decode cX5_rulesOf 11 = .ok (.iload_n 0, 1) := by decide +kernel
theorem dX5_rulesOf_12 : decode cX5_rulesOf 12 = .ok (.bipush 13, 2) := by decide +kernel
theorem dX5_rulesOf_14 : decode cX5_rulesOf 14 = .ok (.if_icmp .ne 10, 3) := by decide +kernel
theorem dX5_rulesOf_17 : decode cX5_rulesOf 17 = .ok (.aload_n 1, 1) := by decide +kernel
theorem dX5_rulesOf_18 : decode cX5_rulesOf 18 = .ok (.getfield 131, 3) := by decide +kernel
theorem dX5_rulesOf_21 : decode cX5_rulesOf 21 = .ok (.goto 4, 3) := by decide +kernel
theorem dX5_rulesOf_24 : decode cX5_rulesOf 24 = .ok (.iconst 1, 1) := by decide +kernel
theorem dX5_rulesOf_25 : decode cX5_rulesOf 25 = .ok (.ireturn, 1) := by decide +kernel
theorem dX5_readNumber_0 : decode cX5_readNumber 0 = .ok (.aload_n 2, 1) := by decide +kernel
theorem dX5_readNumber_1 : decode cX5_readNumber 1 = .ok (.aload_n 0, 1) := by decide +kernel
theorem dX5_readNumber_2 : decode cX5_readNumber 2 = .ok (.getfield 18, 3) := by decide +kernel
theorem dX5_readNumber_5 : decode cX5_readNumber 5 = .ok (.aload_n 0, 1) := by decide +kernel
theorem dX5_readNumber_6 : decode cX5_readNumber 6 = .ok (.getfield 44, 3) := by decide +kernel
theorem dX5_readNumber_9 : decode cX5_readNumber 9 = .ok (.invokevirtual 51, 3) := by decide +kernel
theorem dX5_readNumber_12 : decode cX5_readNumber 12 = .ok (.putfield 134, 3) := by decide +kernel
theorem dX5_readNumber_15 : decode cX5_readNumber 15 = .ok (.aload_n 2, 1) := by decide +kernel
theorem dX5_readNumber_16 : decode cX5_readNumber 16 = .ok (.getfield 112, 3) := by decide +kernel
theorem dX5_readNumber_19 : decode cX5_readNumber 19 = .ok (.aload_n 2, 1) := by decide +kernel
theorem dX5_readNumber_20 : decode cX5_readNumber 20 = .ok (.getfield 134, 3) := by decide +kernel
theorem dX5_readNumber_23 : decode cX5_readNumber 23 = .ok (.aload_n 1, 1) := by decide +kernel
theorem dX5_readNumber_24 : decode cX5_readNumber 24 = .ok (.getfield 137, 3) := by decide +kernel
theorem dX5_readNumber_27 : decode cX5_readNumber 27 = .ok (.invokestatic 140, 3) := by decide +kernel
theorem dX5_readNumber_30 : decode cX5_readNumber 30 = .ok (.ifCond .ne 9, 3) := by decide +kernel
theorem dX5_readNumber_33 : decode cX5_readNumber 33 = .ok (.aload_n 0, 1) := by decide +kernel
theorem dX5_readNumber_34 : decode cX5_readNumber 34 = .ok (.iconst 2, 1) := by decide +kernel
theorem dX5_readNumber_35 : decode cX5_readNumber 35 = .ok (.invokevirtual 33, 3) := by decide +kernel
theorem dX5_readNumber_38 : decode cX5_readNumber 38 = .ok (.ireturn, 1) := by decide +kernel
theorem dX5_readNumber_39 : decode cX5_readNumber 39 = .ok (.aload_n 0, 1) := by decide +kernel
theorem dX5_readNumber_40 : decode cX5_readNumber 40 = .ok (.dup, 1) := by decide +kernel
theorem dX5_readNumber_41 : decode cX5_readNumber 41 = .ok (.getfield 44, 3) := by decide +kernel
theorem dX5_readNumber_44 : decode cX5_readNumber 44 = .ok (.iconst 1, 1) := by decide +kernel
theorem dX5_readNumber_45 : decode cX5_readNumber 45 = .ok (.iadd, 1) := by decide +kernel
theorem dX5_readNumber_46 : decode cX5_readNumber 46 = .ok (.putfield 44, 3) := by decide +kernel
theorem dX5_readNumber_49 : decode cX5_readNumber 49 = .ok (.iconst 1, 1) := by decide +kernel
theorem dX5_readNumber_50 : decode cX5_readNumber 50 = .ok (.ireturn, 1) := by decide +kernel
theorem dX5_isAllowed_0 : decode cX5_isAllowed 0 = .ok (.getstatic 144, 3) := by decide +kernel
theorem dX5_isAllowed_3 : decode cX5_isAllowed 3 = .ok (.aload_n 0, 1) := by decide +kernel
theorem dX5_isAllowed_4 : decode cX5_isAllowed 4 = .ok (.invokevirtual 150, 3) := by decide +kernel
theorem dX5_isAllowed_7 : decode cX5_isAllowed 7 = .ok (.iaload, 1) := by decide +kernel
theorem dX5_isAllowed_8 : decode cX5_isAllowed 8 = .ok (.tableswitch 88 6 11 #[56, 88, 88, 40, 40, 72], 40) := by decide +kernel
theorem dX5_isAllowed_48 : decode cX5_isAllowed 48 = .ok (.iload_n 1, 1) := by decide +kernel
theorem dX5_isAllowed_49 : decode cX5_isAllowed 49 = .ok (.iconst 1, 1) := by decide +kernel
theorem dX5_isAllowed_50 : decode cX5_isAllowed 50 = .ok (.if_icmp .lt 12, 3) := by decide +kernel
theorem dX5_isAllowed_53 : decode cX5_isAllowed 53 = .ok (.iload_n 1, 1) := by decide +kernel
theorem dX5_isAllowed_54 : decode cX5_isAllowed 54 = .ok (.iload_n 2, 1) := by decide +kernel
theorem dX5_isAllowed_55 : decode cX5_isAllowed 55 = .ok (.if_icmp .gt 7, 3) := by decide +kernel
theorem dX5_isAllowed_58 : decode cX5_isAllowed 58 = .ok (.iconst 1, 1) := by decide +kernel
theorem dX5_isAllowed_59 : decode cX5_isAllowed 59 = .ok (.goto 4, 3) := by decide +kernel
theorem dX5_isAllowed_62 : decode cX5_isAllowed 62 = .ok (.iconst 0, 1) := by decide +kernel
theorem dX5_isAllowed_63 : decode cX5_isAllowed 63 = .ok (.ireturn, 1) := by decide +kernel
theorem dX5_isAllowed_64 : decode cX5_isAllowed 64 = .ok (.iload_n 1, 1) := by decide +kernel
theorem dX5_isAllowed_65 : decode cX5_isAllowed 65 = .ok (.iconst 1, 1) := by decide +kernel
theorem dX5_isAllowed_66 : decode cX5_isAllowed 66 = .ok (.if_icmp .lt 12, 3) := by decide +kernel
theorem dX5_isAllowed_69 : decode cX5_isAllowed 69 = .ok (.iload_n 1, 1) := by decide +kernel
theorem dX5_isAllowed_70 : decode cX5_isAllowed 70 = .ok (.iconst 5, 1) := by decide +kernel
theorem dX5_isAllowed_71 : decode cX5_isAllowed 71 = .ok (.if_icmp .gt 7, 3) := by decide +kernel
theorem dX5_isAllowed_74 : decode cX5_isAllowed 74 = .ok (.iconst 1, 1) := by decide +kernel
theorem dX5_isAllowed_75 : decode cX5_isAllowed 75 = .ok (.goto 4, 3) := by decide +kernel
theorem dX5_isAllowed_78 : decode cX5_isAllowed 78 = .ok (.iconst 0, 1) := by decide +kernel
theorem dX5_isAllowed_79 : decode cX5_isAllowed 79 = .ok (.ireturn, 1) := by decide +kernel
theorem dX5_isAllowed_80 : decode cX5_isAllowed 80 = .ok (.iload_n 1, 1) := by decide +kernel
theorem dX5_isAllowed_81 : decode cX5_isAllowed 81 = .ok (.iconst 1, 1) := by decide +kernel
theorem dX5_isAllowed_82 : decode cX5_isAllowed 82 = .ok (.if_icmp .lt 12, 3) := by decide +kernel
theorem dX5_isAllowed_85 : decode cX5_isAllowed 85 = .ok (.iload_n 1, 1) := by decide +kernel
theorem dX5_isAllowed_86 : decode cX5_isAllowed 86 = .ok (.iconst 4, 1) := by decide +kernel
theorem dX5_isAllowed_87 : decode cX5_isAllowed 87 = .ok (.if_icmp .gt 7, 3) := by decide +kernel
theorem dX5_isAllowed_90 : decode cX5_isAllowed 90 = .ok (.iconst 1, 1) := by decide +kernel
theorem dX5_isAllowed_91 : decode cX5_isAllowed 91 = .ok (.goto 4, 3) := by decide +kernel
theorem dX5_isAllowed_94 : decode cX5_isAllowed 94 = .ok (.iconst 0, 1) := by decide +kernel
theorem dX5_isAllowed_95 : decode cX5_isAllowed 95 = .ok (.ireturn, 1) := by decide +kernel
theorem dX5_isAllowed_96 : decode cX5_isAllowed 96 = .ok (.iconst 1, 1) := by decide +kernel
theorem dX5_isAllowed_97 : decode cX5_isAllowed 97 = .ok (.ireturn, 1) := by decide +kernel
theorem dX5_readTimes_0 : decode cX5_readTimes 0 = .ok (.aload_n 1, 1) := by decide +kernel
theorem dX5_readTimes_1 : decode cX5_readTimes 1 = .ok (.aload_n 0, 1) := by decide +kernel
theorem dX5_readTimes_2 : decode cX5_readTimes 2 = .ok (.getfield 18, 3) := by decide +kernel
theorem dX5_readTimes_5 : decode cX5_readTimes 5 = .ok (.aload_n 0, 1) := by decide +kernel
theorem dX5_readTimes_6 : decode cX5_readTimes 6 = .ok (.getfield 44, 3) := by decide +kernel
theorem dX5_readTimes_9 : decode cX5_readTimes 9 = .ok (.invokevirtual 51, 3) := by decide +kernel
theorem dX5_readTimes_12 : decode cX5_readTimes 12 = .ok (.putfield 154, 3) := by decide +kernel
theorem dX5_readTimes_15 : decode cX5_readTimes 15 = .ok (.aload_n 1, 1) := by decide +kernel
theorem dX5_readTimes_16 : decode cX5_readTimes 16 = .ok (.getfield 154, 3) := by decide +kernel
theorem dX5_readTimes_19 : decode cX5_readTimes 19 = .ok (.iconst 5, 1) := by decide +kernel
theorem dX5_readTimes_20 : decode cX5_readTimes 20 = .ok (.if_icmp .le 9, 3) := by decide +kernel
theorem dX5_readTimes_23 : decode cX5_readTimes 23 = .ok (.aload_n 0, 1) := by decide +kernel
theorem dX5_readTimes_24 : decode cX5_readTimes 24 = .ok (.iconst 2, 1) := by decide +kernel
theorem dX5_readTimes_25 : decode cX5_readTimes 25 = .ok (.invokevirtual 33, 3) := by decide +kernel
theorem dX5_readTimes_28 : decode cX5_readTimes 28 = .ok (.ireturn, 1) := by decide +kernel
theorem dX5_readTimes_29 : decode cX5_readTimes 29 = .ok (.aload_n 0, 1) := by decide +kernel
theorem dX5_readTimes_30 : decode cX5_readTimes 30 = .ok (.dup, 1) := by decide +kernel
theorem dX5_readTimes_31 : decode cX5_readTimes 31 = .ok (.getfield 44, 3) := by decide +kernel
theorem dX5_readTimes_34 : decode cX5_readTimes 34 = .ok (.iconst 1, 1) := by decide +kernel
theorem dX5_readTimes_35 : decode cX5_readTimes 35 = .ok (.iadd, 1) := by decide +kernel
theorem dX5_readTimes_36 : decode cX5_readTimes 36 = .ok (.putfield 44, 3) := by decide +kernel
theorem dX5_readTimes_39 : decode cX5_readTimes 39 = .ok (.iconst 1, 1) := by decide +kernel
theorem dX5_readTimes_40 : decode cX5_readTimes 40 = .ok (.ireturn, 1) := by decide +kernel
theorem dX5_readCells_0 : decode cX5_readCells 0 = .ok (.iconst 0, 1) := by decide +kernel
theorem dX5_readCells_1 : decode cX5_readCells 1 = .ok (.istore_n 3, 1) := by decide +kernel
theorem dX5_readCells_2 : decode cX5_readCells 2 = .ok (.iload_n 3, 1) := by decide +kernel
theorem dX5_readCells_3 : decode cX5_readCells 3 = .ok (.aload_n 0, 1) := by decide +kernel
theorem dX5_readCells_4 : decode cX5_readCells 4 = .ok (.getfield 18, 3) := by decide +kernel
theorem dX5_readCells_7 : decode cX5_readCells 7 = .ok (.getfield 58, 3) := by decide +kernel
theorem dX5_readCells_10 : decode cX5_readCells 10 = .ok (.if_icmp .ge 144, 3) := by decide +kernel
theorem dX5_readCells_13 : decode cX5_readCells 13 = .ok (.aload_n 0, 1) := by decide +kernel
theorem dX5_readCells_14 : decode cX5_readCells 14 = .ok (.getfield 18, 3) := by decide +kernel
theorem dX5_readCells_17 : decode cX5_readCells 17 = .ok (.aload_n 0, 1) := by decide +kernel
theorem dX5_readCells_18 : decode cX5_readCells 18 = .ok (.getfield 44, 3) := by decide +kernel
theorem dX5_readCells_21 : decode cX5_readCells 21 = .ok (.invokevirtual 61, 3) := by decide +kernel
theorem dX5_readCells_24 : decode cX5_readCells 24 = .ok (.iconst 3, 1) := by decide +kernel
theorem dX5_readCells_25 : decode cX5_readCells 25 = .ok (.if_icmp .ne 129, 3) := by decide +kernel
theorem dX5_readCells_28 : decode cX5_readCells 28 = .ok (.aload_n 0, 1) := by decide +kernel
theorem dX5_readCells_29 : decode cX5_readCells 29 = .ok (.getfield 18, 3) := by decide +kernel
theorem dX5_readCells_32 : decode cX5_readCells 32 = .ok (.aload_n 0, 1) := by decide +kernel
theorem dX5_readCells_33 : decode cX5_readCells 33 = .ok (.getfield 44, 3) := by decide +kernel
theorem dX5_readCells_36 : decode cX5_readCells 36 = .ok (.invokevirtual 51, 3) := by decide +kernel
theorem dX5_readCells_39 : decode cX5_readCells 39 = .ok (.bipush 10, 2) := by decide +kernel
theorem dX5_readCells_41 : decode cX5_readCells 41 = .ok (.idiv, 1) := by decide +kernel
theorem dX5_readCells_42 : decode cX5_readCells 42 = .ok (.istore 4, 2) := by decide +kernel
theorem dX5_readCells_44 : decode cX5_readCells 44 = .ok (.aload_n 0, 1) := by decide +kernel
theorem dX5_readCells_45 : decode cX5_readCells 45 = .ok (.getfield 18, 3) := by decide +kernel
theorem dX5_readCells_48 : decode cX5_readCells 48 = .ok (.aload_n 0, 1) := by decide +kernel
theorem dX5_readCells_49 : decode cX5_readCells 49 = .ok (.getfield 44, 3) := by decide +kernel
theorem dX5_readCells_52 : decode cX5_readCells 52 = .ok (.invokevirtual 51, 3) := by decide +kernel
theorem dX5_readCells_55 : decode cX5_readCells 55 = .ok (.bipush 10, 2) := by decide +kernel
theorem dX5_readCells_57 : decode cX5_readCells 57 = .ok (.irem, 1) := by decide +kernel
theorem dX5_readCells_58 : decode cX5_readCells 58 = .ok (.iconst 1, 1) := by decide +kernel
theorem dX5_readCells_59 : decode cX5_readCells 59 = .ok (.isub, 1) := by decide +kernel
theorem dX5_readCells_60 : decode cX5_readCells 60 = .ok (.istore 5, 2) := by decide +kernel
theorem dX5_readCells_62 : decode cX5_readCells 62 = .ok (.iload 4, 2) := by decide +kernel
theorem dX5_readCells_64 : decode cX5_readCells 64 = .ok (.aload_n 1, 1) := by decide +kernel
theorem dX5_readCells_65 : decode cX5_readCells 65 = .ok (.getfield 131, 3) := by decide +kernel
theorem dX5_readCells_68 : decode cX5_readCells 68 = .ok (.if_icmp .ge 17, 3) := by decide +kernel
theorem dX5_readCells_71 : decode cX5_readCells 71 = .ok (.iload 5, 2) := by decide +kernel
theorem dX5_readCells_73 : decode cX5_readCells 73 = .ok (.ifCond .lt 12, 3) := by decide +kernel
theorem dX5_readCells_76 : decode cX5_readCells 76 = .ok (.iload 5, 2) := by decide +kernel
theorem dX5_readCells_78 : decode cX5_readCells 78 = .ok (.aload_n 1, 1) := by decide +kernel
theorem dX5_readCells_79 : decode cX5_readCells 79 = .ok (.getfield 128, 3) := by decide +kernel
theorem dX5_readCells_82 : decode cX5_readCells 82 = .ok (.if_icmp .lt 9, 3) := by decide +kernel
theorem dX5_readCells_85 : decode cX5_readCells 85 = .ok (.aload_n 0, 1) := by decide +kernel
theorem dX5_readCells_86 : decode cX5_readCells 86 = .ok (.iconst 2, 1) := by decide +kernel
theorem dX5_readCells_87 : decode cX5_readCells 87 = .ok (.invokevirtual 33, 3) := by decide +kernel
theorem dX5_readCells_90 : decode cX5_readCells 90 = .ok (.ireturn, 1) := by decide +kernel
theorem dX5_readCells_91 : decode cX5_readCells 91 = .ok (.iload 4, 2) := by decide +kernel
theorem dX5_readCells_93 : decode cX5_readCells 93 = .ok (.aload_n 1, 1) := by decide +kernel
theorem dX5_readCells_94 : decode cX5_readCells 94 = .ok (.getfield 131, 3) := by decide +kernel
theorem dX5_readCells_97 : decode cX5_readCells 97 = .ok (.iload 5, 2) := by decide +kernel
theorem dX5_readCells_99 : decode cX5_readCells 99 = .ok (.imul, 1) := by decide +kernel
theorem dX5_readCells_100 : decode cX5_readCells 100 = .ok (.iadd, 1) := by decide +kernel
theorem dX5_readCells_101 : decode cX5_readCells 101 = .ok (.istore 6, 2) := by decide +kernel
theorem dX5_readCells_103 : decode cX5_readCells 103 = .ok (.aload_n 2, 1) := by decide +kernel
theorem dX5_readCells_104 : decode cX5_readCells 104 = .ok (.iload 6, 2) := by decide +kernel
theorem dX5_readCells_106 : decode cX5_readCells 106 = .ok (.invokevirtual 157, 3) := by decide +kernel
theorem dX5_readCells_109 : decode cX5_readCells 109 = .ok (.ifCond .eq 9, 3) := by decide +kernel
theorem dX5_readCells_112 : decode cX5_readCells 112 = .ok (.aload_n 0, 1) := by decide +kernel
theorem dX5_readCells_113 : decode cX5_readCells 113 = .ok (.iconst 3, 1) := by decide +kernel
theorem dX5_readCells_114 : decode cX5_readCells 114 = .ok (.invokevirtual 33, 3) := by decide +kernel
theorem dX5_readCells_117 : decode cX5_readCells 117 = .ok (.ireturn, 1) := by decide +kernel
theorem dX5_readCells_118 : decode cX5_readCells 118 = .ok (.aload_n 2, 1) := by decide +kernel
theorem dX5_readCells_119 : decode cX5_readCells 119 = .ok (.getfield 160, 3) := by decide +kernel
theorem dX5_readCells_122 : decode cX5_readCells 122 = .ok (.iconst 5, 1) := by decide +kernel
theorem dX5_readCells_123 : decode cX5_readCells 123 = .ok (.if_icmp .lt 9, 3) := by decide +kernel
theorem dX5_readCells_126 : decode cX5_readCells 126 = .ok (.aload_n 0, 1) := by decide +kernel
theorem dX5_readCells_127 : decode cX5_readCells 127 = .ok (.iconst 4, 1) := by decide +kernel
theorem dX5_readCells_128 : decode cX5_readCells 128 = .ok (.invokevirtual 33, 3) := by decide +kernel
theorem dX5_readCells_131 : decode cX5_readCells 131 = .ok (.ireturn, 1) := by decide +kernel
theorem dX5_readCells_132 : decode cX5_readCells 132 = .ok (.aload_n 2, 1) := by decide +kernel
theorem dX5_readCells_133 : decode cX5_readCells 133 = .ok (.iload 6, 2) := by decide +kernel
theorem dX5_readCells_135 : decode cX5_readCells 135 = .ok (.invokevirtual 163, 3) := by decide +kernel
theorem dX5_readCells_138 : decode cX5_readCells 138 = .ok (.aload_n 0, 1) := by decide +kernel
theorem dX5_readCells_139 : decode cX5_readCells 139 = .ok (.dup, 1) := by decide +kernel
theorem dX5_readCells_140 : decode cX5_readCells 140 = .ok (.getfield 44, 3) := by decide +kernel
theorem dX5_readCells_143 : decode cX5_readCells 143 = .ok (.iconst 1, 1) := by decide +kernel
theorem dX5_readCells_144 : decode cX5_readCells 144 = .ok (.iadd, 1) := by decide +kernel
theorem dX5_readCells_145 : decode cX5_readCells 145 = .ok (.putfield 44, 3) := by decide +kernel
theorem dX5_readCells_148 : decode cX5_readCells 148 = .ok (.iinc 3 1, 3) := by decide +kernel
theorem dX5_readCells_151 : decode cX5_readCells 151 = .ok (.goto (-149), 3) := by decide +kernel
theorem dX5_readCells_154 : decode cX5_readCells 154 = .ok (.iconst 1, 1) := by decide +kernel
theorem dX5_readCells_155 : decode cX5_readCells 155 = .ok (.ireturn, 1) := by decide +kernel
theorem dX6_init_0 : decode cX6_init 0 = .ok (.aload_n 0, 1) := by decide +kernel
theorem dX6_init_1 : decode cX6_init 1 = .ok (.invokespecial 3, 3) := by decide +kernel
theorem dX6_init_4 : decode cX6_init 4 = .ok (.aload_n 0, 1) := by decide +kernel
theorem dX6_init_5 : decode cX6_init 5 = .ok (.bipush 25, 2) := by decide +kernel
theorem dX6_init_7 : decode cX6_init 7 = .ok (.newarray .int, 2) := by decide +kernel
theorem dX6_init_9 : decode cX6_init 9 = .ok (.putfield 9, 3) := by decide +kernel
theorem dX6_init_12 : decode cX6_init 12 = .ok (.aload_n 0, 1) := by decide +kernel
theorem dX6_init_13 : decode cX6_init 13 = .ok (.bipush 25, 2) := by decide +kernel
theorem dX6_init_15 : decode cX6_init 15 = .ok (.newarray .int, 2) := by decide +kernel
theorem dX6_init_17 : decode cX6_init 17 = .ok (.putfield 15, 3) := by decide +kernel
theorem dX6_init_20 : decode cX6_init 20 = .ok (.return_, 1) := by decide +kernel
theorem dX6_begin_0 : decode cX6_begin 0 = .ok (.aload_n 0, 1) := by decide +kernel
theorem dX6_begin_1 : decode cX6_begin 1 = .ok (.iconst 0, 1) := by decide +kernel
theorem dX6_begin_2 : decode cX6_begin 2 = .ok (.putfield 18, 3) := by decide +kernel
theorem dX6_begin_5 : decode cX6_begin 5 = .ok (.aload_n 0, 1) := by decide +kernel
theorem dX6_begin_6 : decode cX6_begin 6 = .ok (.iconst 0, 1) := by decide +kernel
theorem dX6_begin_7 : decode cX6_begin 7 = .ok (.putfield 22, 3) := by decide +kernel
theorem dX6_begin_10 : decode cX6_begin 10 = .ok (.iconst 0, 1) := by decide +kernel
theorem dX6_begin_11 : decode cX6_begin 11 = .ok (.istore_n 2, 1) := by decide +kernel
theorem dX6_begin_12 : decode cX6_begin 12 = .ok (.iload_n 2, 1) := by decide +kernel
theorem dX6_begin_13 : decode cX6_begin 13 = .ok (.aload_n 1, 1) := by decide +kernel
theorem dX6_begin_14 : decode cX6_begin 14 = .ok (.invokevirtual 25, 3) := by decide +kernel
theorem dX6_begin_17 : decode cX6_begin 17 = .ok (.if_icmp .ge 42, 3) := by decide +kernel
theorem dX6_begin_20 : decode cX6_begin 20 = .ok (.aload_n 1, 1) := by decide +kernel
theorem dX6_begin_21 : decode cX6_begin 21 = .ok (.getfield 31, 3) := by decide +kernel
theorem dX6_begin_24 : decode cX6_begin 24 = .ok (.iload_n 2, 1) := by decide +kernel
theorem dX6_begin_25 : decode cX6_begin 25 = .ok (.iaload, 1) := by decide +kernel
theorem dX6_begin_26 : decode cX6_begin 26 = .ok (.istore_n 3, 1) := by decide +kernel
theorem dX6_begin_27 : decode cX6_begin 27 = .ok (.aload_n 0, 1) := by decide +kernel
theorem dX6_begin_28 : decode cX6_begin 28 = .ok (.getfield 9, 3) := by decide +kernel
theorem dX6_begin_31 : decode cX6_begin 31 = .ok (.iload_n 2, 1) := by decide +kernel
theorem dX6_begin_32 : decode cX6_begin 32 = .ok (.iload_n 3, 1) := by decide +kernel
theorem dX6_begin_33 : decode cX6_begin 33 = .ok (.ifCond .ne 14, 3) := by decide +kernel
theorem dX6_begin_36 : decode cX6_begin 36 = .ok (.iconst 1, 1) := by decide +kernel
theorem dX6_begin_37 : decode cX6_begin 37 = .ok (.aload_n 1, 1) := by decide +kernel
theorem dX6_begin_38 : decode cX6_begin 38 = .ok (.getfield 34, 3) := by decide +kernel
theorem dX6_begin_41 : decode cX6_begin 41 = .ok (.ishl, 1) := by decide +kernel
theorem dX6_begin_42 : decode cX6_begin 42 = .ok (.iconst 1, 1) := by decide +kernel
theorem dX6_begin_43 : decode cX6_begin 43 = .ok (.isub, 1) := by decide +kernel
theorem dX6_begin_44 : decode cX6_begin 44 = .ok (.goto 8, 3) := by decide +kernel
theorem dX6_begin_47 : decode cX6_begin 47 = .ok (.iconst 1, 1) := by decide +kernel
theorem dX6_begin_48 : decode cX6_begin 48 = .ok (.iload_n 3, 1) := by decide +kernel
theorem dX6_begin_49 : decode cX6_begin 49 = .ok (.iconst 1, 1) := by decide +kernel
theorem dX6_begin_50 : decode cX6_begin 50 = .ok (.isub, 1) := by decide +kernel
theorem dX6_begin_51 : decode cX6_begin 51 = .ok (.ishl, 1) := by decide +kernel
theorem dX6_begin_52 : decode cX6_begin 52 = .ok (.iastore, 1) := by decide +kernel
theorem dX6_begin_53 : decode cX6_begin 53 = .ok (.iinc 2 1, 3) := by decide +kernel
theorem dX6_begin_56 : decode cX6_begin 56 = .ok (.goto (-44), 3) := by decide +kernel
theorem dX6_begin_59 : decode cX6_begin 59 = .ok (.return_, 1) := by decide +kernel
theorem dX6_countValues_0 : decode cX6_countValues 0 = .ok (.iconst 0, 1) := by decide +kernel
theorem dX6_countValues_1 : decode cX6_countValues 1 = .ok (.istore_n 2, 1) := by decide +kernel
theorem dX6_countValues_2 : decode cX6_countValues 2 = .ok (.iconst 0, 1) := by decide +kernel
theorem dX6_countValues_3 : decode cX6_countValues 3 = .ok (.istore_n 3, 1) := by decide +kernel
theorem dX6_countValues_4 : decode cX6_countValues 4 = .ok (.iload_n 3, 1) := by decide +kernel
theorem dX6_countValues_5 : decode cX6_countValues 5 = .ok (.aload_n 1, 1) := by decide +kernel
theorem dX6_countValues_6 : decode cX6_countValues 6 = .ok (.invokevirtual 25, 3) := by decide +kernel
theorem dX6_countValues_9 : decode cX6_countValues 9 = .ok (.if_icmp .ge 21, 3) := by decide +kernel
theorem dX6_countValues_12 : decode cX6_countValues 12 = .ok (.iload_n 2, 1) := by decide +kernel
theorem dX6_countValues_13 : decode cX6_countValues 13 = .ok (.aload_n 0, 1) := by decide +kernel
theorem dX6_countValues_14 : decode cX6_countValues 14 = .ok (.getfield 9, 3) := by decide +kernel
theorem dX6_countValues_17 : decode cX6_countValues 17 = .ok (.iload_n 3, 1) := by decide +kernel
theorem dX6_countValues_18 : decode cX6_countValues 18 = .ok (.iaload, 1) := by decide +kernel
theorem dX6_countValues_19 : decode cX6_countValues 19 = .ok (.invokestatic 37, 3) := by decide +kernel
theorem dX6_countValues_22 : decode cX6_countValues 22 = .ok (.iadd, 1) := by decide +kernel
theorem dX6_countValues_23 : decode cX6_countValues 23 = .ok (.istore_n 2, 1) := by decide +kernel
theorem dX6_countValues_24 : decode cX6_countValues 24 = .ok (.iinc 3 1, 3) := by decide +kernel
theorem dX6_countValues_27 : decode cX6_countValues 27 = .ok (.goto (-23), 3) := by decide +kernel
theorem dX6_countValues_30 : decode cX6_countValues 30 = .ok (.iload_n 2, 1) := by decide +kernel
theorem dX6_countValues_31 : decode cX6_countValues 31 = .ok (.ireturn, 1) := by decide +kernel
theorem dX6_countCellsWith_0 : decode cX6_countCellsWith 0 = .ok (.iconst 0, 1) := by decide +kernel
theorem dX6_countCellsWith_1 : decode cX6_countCellsWith 1 = .ok (.istore_n 3, 1) := by decide +kernel
theorem dX6_countCellsWith_2 : decode cX6_countCellsWith 2 = .ok (.iconst 0, 1) := by decide +kernel
theorem dX6_countCellsWith_3 : decode cX6_countCellsWith 3 = .ok (.istore 4, 2) := by decide +kernel
theorem dX6_countCellsWith_5 : decode cX6_countCellsWith 5 = .ok (.iload 4, 2) := by decide +kernel
theorem dX6_countCellsWith_7 : decode cX6_countCellsWith 7 = .ok (.aload_n 1, 1) := by decide +kernel
theorem dX6_countCellsWith_8 : decode cX6_countCellsWith 8 = .ok (.invokevirtual 25, 3) := by decide +kernel
theorem dX6_countCellsWith_11 : decode cX6_countCellsWith 11 = .ok (.if_icmp .ge 26, 3) := by decide +kernel
theorem dX6_countCellsWith_14 : decode cX6_countCellsWith 14 = .ok (.aload_n 0, 1) := by decide +kernel
theorem dX6_countCellsWith_15 : decode cX6_countCellsWith 15 = .ok (.getfield 9, 3) := by decide +kernel
theorem dX6_countCellsWith_18 : decode cX6_countCellsWith 18 = .ok (.iload 4, 2) := by decide +kernel
theorem dX6_countCellsWith_20 : decode cX6_countCellsWith 20 = .ok (.iaload, 1) := by decide +kernel
theorem dX6_countCellsWith_21 : decode cX6_countCellsWith 21 = .ok (.invokestatic 37, 3) := by decide +kernel
theorem dX6_countCellsWith_24 : decode cX6_countCellsWith 24 = .ok (.iload_n 2, 1) := by decide +kernel
theorem dX6_countCellsWith_25 : decode cX6_countCellsWith 25 = .ok (.if_icmp .ne 6, 3) := by decide +kernel
theorem dX6_countCellsWith_28 : decode cX6_countCellsWith 28 = .ok (.iinc 3 1, 3) := by decide +kernel
theorem dX6_countCellsWith_31 : decode cX6_countCellsWith 31 = .ok (.iinc 4 1, 3) := by decide +kernel
theorem dX6_countCellsWith_34 : decode cX6_countCellsWith 34 = .ok (.goto (-29), 3) := by decide +kernel
theorem dX6_countCellsWith_37 : decode cX6_countCellsWith 37 = .ok (.iload_n 3, 1) := by decide +kernel
theorem dX6_countCellsWith_38 : decode cX6_countCellsWith 38 = .ok (.ireturn, 1) := by decide +kernel
theorem dX6_takeOut_0 : decode cX6_takeOut 0 = .ok (.aload_n 0, 1) := by decide +kernel
theorem dX6_takeOut_1 : decode cX6_takeOut 1 = .ok (.iload_n 1, 1) := by decide +kernel
theorem dX6_takeOut_2 : decode cX6_takeOut 2 = .ok (.iload_n 2, 1) := by decide +kernel
theorem dX6_takeOut_3 : decode cX6_takeOut 3 = .ok (.invokevirtual 43, 3) := by decide +kernel
theorem dX6_takeOut_6 : decode cX6_takeOut 6 = .ok (.ifCond .eq 17, 3) := by decide +kernel
theorem dX6_takeOut_9 : decode cX6_takeOut 9 = .ok (.aload_n 0, 1) := by decide +kernel
theorem dX6_takeOut_10 : decode cX6_takeOut 10 = .ok (.getfield 9, 3) := by decide +kernel
theorem dX6_takeOut_13 : decode cX6_takeOut 13 = .ok (.iload_n 1, 1) := by decide +kernel
theorem dX6_takeOut_14 : decode cX6_takeOut 14 = .ok (.dup2, 1) := by decide +kernel
theorem dX6_takeOut_15 : decode cX6_takeOut 15 = .ok (.iaload, 1) := by decide +kernel
theorem dX6_takeOut_16 : decode cX6_takeOut 16 = .ok (.iconst 1, 1) := by decide +kernel
theorem dX6_takeOut_17 : decode cX6_takeOut 17 = .ok (.iload_n 2, 1) := by decide +kernel
theorem dX6_takeOut_18 : decode cX6_takeOut 18 = .ok (.iconst 1, 1) := by decide +kernel
theorem dX6_takeOut_19 : decode cX6_takeOut 19 = .ok (.isub, 1) := by decide +kernel
theorem dX6_takeOut_20 : decode cX6_takeOut 20 = .ok (.ishl, 1) := by decide +kernel
theorem dX6_takeOut_21 : decode cX6_takeOut 21 = .ok (.isub, 1) := by decide +kernel
theorem dX6_takeOut_22 : decode cX6_takeOut 22 = .ok (.iastore, 1) := by decide +kernel
theorem dX6_takeOut_23 : decode cX6_takeOut 23 = .ok (.return_, 1) := by decide +kernel
theorem dX6_findFirst_0 : decode cX6_findFirst 0 = .ok (.iconst 0, 1) := by decide +kernel
theorem dX6_findFirst_1 : decode cX6_findFirst 1 = .ok (.istore_n 2, 1) := by decide +kernel
theorem dX6_findFirst_2 : decode cX6_findFirst 2 = .ok (.iload_n 2, 1) := by decide +kernel
theorem dX6_findFirst_3 : decode cX6_findFirst 3 = .ok (.aload_n 1, 1) := by decide +kernel
theorem dX6_findFirst_4 : decode cX6_findFirst 4 = .ok (.getfield 47, 3) := by decide +kernel
theorem dX6_findFirst_7 : decode cX6_findFirst 7 = .ok (.if_icmp .ge 33, 3) := by decide +kernel
theorem dX6_findFirst_10 : decode cX6_findFirst 10 = .ok (.aload_n 0, 1) := by decide +kernel
theorem dX6_findFirst_11 : decode cX6_findFirst 11 = .ok (.aload_n 1, 1) := by decide +kernel
theorem dX6_findFirst_12 : decode cX6_findFirst 12 = .ok (.getfield 50, 3) := by decide +kernel
theorem dX6_findFirst_15 : decode cX6_findFirst 15 = .ok (.iload_n 2, 1) := by decide +kernel
theorem dX6_findFirst_16 : decode cX6_findFirst 16 = .ok (.aaload, 1) := by decide +kernel
theorem dX6_findFirst_17 : decode cX6_findFirst 17 = .ok (.aload_n 1, 1) := by decide +kernel
theorem dX6_findFirst_18 : decode cX6_findFirst 18 = .ok (.getfield 34, 3) := by decide +kernel
theorem dX6_findFirst_21 : decode cX6_findFirst 21 = .ok (.invokevirtual 54, 3) := by decide +kernel
theorem dX6_findFirst_24 : decode cX6_findFirst 24 = .ok (.ifCond .eq 10, 3) := by decide +kernel
theorem dX6_findFirst_27 : decode cX6_findFirst 27 = .ok (.aload_n 0, 1) := by decide +kernel
theorem dX6_findFirst_28 : decode cX6_findFirst 28 = .ok (.iload_n 2, 1) := by decide +kernel
theorem dX6_findFirst_29 : decode cX6_findFirst 29 = .ok (.putfield 58, 3) := by decide +kernel
theorem dX6_findFirst_32 : decode cX6_findFirst 32 = .ok (.iconst 1, 1) := by decide +kernel
theorem dX6_findFirst_33 : decode cX6_findFirst 33 = .ok (.ireturn, 1) := by decide +kernel
theorem dX6_findFirst_34 : decode cX6_findFirst 34 = .ok (.iinc 2 1, 3) := by decide +kernel
theorem dX6_findFirst_37 : decode cX6_findFirst 37 = .ok (.goto (-35), 3) := by decide +kernel
theorem dX6_findFirst_40 : decode cX6_findFirst 40 = .ok (.iconst 0, 1) := by decide +kernel
theorem dX6_findFirst_41 : decode cX6_findFirst 41 = .ok (.ireturn, 1) := by decide +kernel
theorem dX6_findFirstBy_0 : decode cX6_findFirstBy 0 = .ok (.iconst 0, 1) := by decide +kernel
theorem dX6_findFirstBy_1 : decode cX6_findFirstBy 1 = .ok (.istore_n 3, 1) := by decide +kernel
theorem dX6_findFirstBy_2 : decode cX6_findFirstBy 2 = .ok (.iload_n 3, 1) := by decide +kernel
theorem dX6_findFirstBy_3 : decode cX6_findFirstBy 3 = .ok (.aload_n 1, 1) := by decide +kernel
theorem dX6_findFirstBy_4 : decode cX6_findFirstBy 4 = .ok (.getfield 61, 3) := by decide +kernel
theorem dX6_findFirstBy_7 : decode cX6_findFirstBy 7 = .ok (.if_icmp .ge 63, 3) := by decide +kernel
theorem dX6_findFirstBy_10 : decode cX6_findFirstBy 10 = .ok (.iconst 1, 1) := by decide +kernel
theorem dX6_findFirstBy_11 : decode cX6_findFirstBy 11 = .ok (.istore 4, 2) := by decide +kernel
theorem dX6_findFirstBy_13 : decode cX6_findFirstBy 13 = .ok (.iload 4, 2) := by decide +kernel
theorem dX6_findFirstBy_15 : decode cX6_findFirstBy 15 = .ok (.iload_n 2, 1) := by decide +kernel
theorem dX6_findFirstBy_16 : decode cX6_findFirstBy 16 = .ok (.if_icmp .gt 48, 3) := by decide +kernel
theorem dX6_findFirstBy_19 : decode cX6_findFirstBy 19 = .ok (.aload_n 0, 1) := by decide +kernel
theorem dX6_findFirstBy_20 : decode cX6_findFirstBy 20 = .ok (.aload_n 1, 1) := by decide +kernel
theorem dX6_findFirstBy_21 : decode cX6_findFirstBy 21 = .ok (.iload_n 3, 1) := by decide +kernel
theorem dX6_findFirstBy_22 : decode cX6_findFirstBy 22 = .ok (.iload 4, 2) := by decide +kernel
theorem dX6_findFirstBy_24 : decode cX6_findFirstBy 24 = .ok (.iload_n 2, 1) := by decide +kernel
theorem dX6_findFirstBy_25 : decode cX6_findFirstBy 25 = .ok (.invokevirtual 66, 3) := by decide +kernel
theorem dX6_findFirstBy_28 : decode cX6_findFirstBy 28 = .ok (.ifCond .eq 30, 3) := by decide +kernel
theorem dX6_findFirstBy_31 : decode cX6_findFirstBy 31 = .ok (.aload_n 0, 1) := by decide +kernel
theorem dX6_findFirstBy_32 : decode cX6_findFirstBy 32 = .ok (.aload_n 1, 1) := by decide +kernel
theorem dX6_findFirstBy_33 : decode cX6_findFirstBy 33 = .ok (.getfield 70, 3) := by decide +kernel
theorem dX6_findFirstBy_36 : decode cX6_findFirstBy 36 = .ok (.iload_n 3, 1) := by decide +kernel
theorem dX6_findFirstBy_37 : decode cX6_findFirstBy 37 = .ok (.iaload, 1) := by decide +kernel
theorem dX6_findFirstBy_38 : decode cX6_findFirstBy 38 = .ok (.putfield 73, 3) := by decide +kernel
theorem dX6_findFirstBy_41 : decode cX6_findFirstBy 41 = .ok (.aload_n 0, 1) := by decide +kernel
theorem dX6_findFirstBy_42 : decode cX6_findFirstBy 42 = .ok (.iload 4, 2) := by decide +kernel
theorem dX6_findFirstBy_44 : decode cX6_findFirstBy 44 = .ok (.putfield 76, 3) := by decide +kernel
theorem dX6_findFirstBy_47 : decode cX6_findFirstBy 47 = .ok (.aload_n 0, 1) := by decide +kernel
theorem dX6_findFirstBy_48 : decode cX6_findFirstBy 48 = .ok (.aload_n 0, 1) := by decide +kernel
theorem dX6_findFirstBy_49 : decode cX6_findFirstBy 49 = .ok (.aload_n 1, 1) := by decide +kernel
theorem dX6_findFirstBy_50 : decode cX6_findFirstBy 50 = .ok (.invokevirtual 79, 3) := by decide +kernel
theorem dX6_findFirstBy_53 : decode cX6_findFirstBy 53 = .ok (.putfield 83, 3) := by decide +kernel
theorem dX6_findFirstBy_56 : decode cX6_findFirstBy 56 = .ok (.iconst 1, 1) := by decide +kernel
theorem dX6_findFirstBy_57 : decode cX6_findFirstBy 57 = .ok (.ireturn, 1) := by decide +kernel
theorem dX6_findFirstBy_58 : decode cX6_findFirstBy 58 = .ok (.iinc 4 1, 3) := by decide +kernel
theorem dX6_findFirstBy_61 : decode cX6_findFirstBy 61 = .ok (.goto (-48), 3) := by decide +kernel
theorem dX6_findFirstBy_64 : decode cX6_findFirstBy 64 = .ok (.iinc 3 1, 3) := by decide +kernel
theorem dX6_findFirstBy_67 : decode cX6_findFirstBy 67 = .ok (.goto (-65), 3) := by decide +kernel
theorem dX6_findFirstBy_70 : decode cX6_findFirstBy 70 = .ok (.iconst 0, 1) := by decide +kernel
theorem dX6_findFirstBy_71 : decode cX6_findFirstBy 71 = .ok (.ireturn, 1) := by decide +kernel
theorem dX6_doPasses_0 : decode cX6_doPasses 0 = .ok (.aload_n 0, 1) := by decide +kernel
theorem dX6_doPasses_1 : decode cX6_doPasses 1 = .ok (.iconst 0, 1) := by decide +kernel
theorem dX6_doPasses_2 : decode cX6_doPasses 2 = .ok (.putfield 18, 3) := by decide +kernel
theorem dX6_doPasses_5 : decode cX6_doPasses 5 = .ok (.aload_n 0, 1) := by decide +kernel
theorem dX6_doPasses_6 : decode cX6_doPasses 6 = .ok (.iconst 0, 1) := by decide +kernel
theorem dX6_doPasses_7 : decode cX6_doPasses 7 = .ok (.putfield 22, 3) := by decide +kernel
theorem dX6_doPasses_10 : decode cX6_doPasses 10 = .ok (.iconst 0, 1) := by decide +kernel
theorem dX6_doPasses_11 : decode cX6_doPasses 11 = .ok (.istore_n 2, 1) := by decide +kernel
theorem dX6_doPasses_12 : decode cX6_doPasses 12 = .ok (.iconst 0, 1) := by decide +kernel
theorem dX6_doPasses_13 : decode cX6_doPasses 13 = .ok (.istore_n 3, 1) := by decide +kernel
theorem dX6_doPasses_14 : decode cX6_doPasses 14 = .ok (.iload_n 3, 1) := by decide +kernel
theorem dX6_doPasses_15 : decode cX6_doPasses 15 = .ok (.bipush 125, 2) := by decide +kernel
theorem dX6_doPasses_17 : decode cX6_doPasses 17 = .ok (.if_icmp .gt 73, 3) := by decide +kernel
theorem dX6_doPasses_20 : decode cX6_doPasses 20 = .ok (.iconst 0, 1) := by decide +kernel
theorem dX6_doPasses_21 : decode cX6_doPasses 21 = .ok (.istore 4, 2) := by decide +kernel
theorem dX6_doPasses_23 : decode cX6_doPasses 23 = .ok (.iconst 0, 1) := by decide +kernel
theorem dX6_doPasses_24 : decode cX6_doPasses 24 = .ok (.istore 5, 2) := by decide +kernel
theorem dX6_doPasses_26 : decode cX6_doPasses 26 = .ok (.iload 5, 2) := by decide +kernel
theorem dX6_doPasses_28 : decode cX6_doPasses 28 = .ok (.aload_n 1, 1) := by decide +kernel
theorem dX6_doPasses_29 : decode cX6_doPasses 29 = .ok (.getfield 47, 3) := by decide +kernel
theorem dX6_doPasses_32 : decode cX6_doPasses 32 = .ok (.if_icmp .ge 29, 3) := by decide +kernel
theorem dX6_doPasses_35 : decode cX6_doPasses 35 = .ok (.iload 4, 2) := by decide +kernel
theorem dX6_doPasses_37 : decode cX6_doPasses 37 = .ok (.aload_n 0, 1) := by decide +kernel
theorem dX6_doPasses_38 : decode cX6_doPasses 38 = .ok (.aload_n 1, 1) := by decide +kernel
theorem dX6_doPasses_39 : decode cX6_doPasses 39 = .ok (.getfield 50, 3) := by decide +kernel
theorem dX6_doPasses_42 : decode cX6_doPasses 42 = .ok (.iload 5, 2) := by decide +kernel
theorem dX6_doPasses_44 : decode cX6_doPasses 44 = .ok (.aaload, 1) := by decide +kernel
theorem dX6_doPasses_45 : decode cX6_doPasses 45 = .ok (.aload_n 1, 1) := by decide +kernel
theorem dX6_doPasses_46 : decode cX6_doPasses 46 = .ok (.getfield 34, 3) := by decide +kernel
theorem dX6_doPasses_49 : decode cX6_doPasses 49 = .ok (.invokevirtual 86, 3) := by decide +kernel
theorem dX6_doPasses_52 : decode cX6_doPasses 52 = .ok (.iadd, 1) := by decide +kernel
theorem dX6_doPasses_53 : decode cX6_doPasses 53 = .ok (.istore 4, 2) := by decide +kernel
theorem dX6_doPasses_55 : decode cX6_doPasses 55 = .ok (.iinc 5 1, 3) := by decide +kernel
theorem dX6_doPasses_58 : decode cX6_doPasses 58 = .ok (.goto (-32), 3) := by decide +kernel
theorem dX6_doPasses_61 : decode cX6_doPasses 61 = .ok (.aload_n 0, 1) := by decide +kernel
theorem dX6_doPasses_62 : decode cX6_doPasses 62 = .ok (.dup, 1) := by decide +kernel
theorem dX6_doPasses_63 : decode cX6_doPasses 63 = .ok (.getfield 18, 3) := by decide +kernel
theorem dX6_doPasses_66 : decode cX6_doPasses 66 = .ok (.iconst 1, 1) := by decide +kernel
theorem dX6_doPasses_67 : decode cX6_doPasses 67 = .ok (.iadd, 1) := by decide +kernel
theorem dX6_doPasses_68 : decode cX6_doPasses 68 = .ok (.putfield 18, 3) := by decide +kernel
theorem dX6_doPasses_71 : decode cX6_doPasses 71 = .ok (.iload_n 2, 1) := by decide +kernel
theorem dX6_doPasses_72 : decode cX6_doPasses 72 = .ok (.iload 4, 2) := by decide +kernel
theorem dX6_doPasses_74 : decode cX6_doPasses 74 = .ok (.iadd, 1) := by decide +kernel
theorem dX6_doPasses_75 : decode cX6_doPasses 75 = .ok (.istore_n 2, 1) := by decide +kernel
theorem dX6_doPasses_76 : decode cX6_doPasses 76 = .ok (.iload 4, 2) := by decide +kernel
theorem dX6_doPasses_78 : decode cX6_doPasses 78 = .ok (.ifCond .ne 6, 3) := by decide +kernel
theorem dX6_doPasses_81 : decode cX6_doPasses 81 = .ok (.goto 9, 3) := by decide +kernel
theorem dX6_doPasses_84 : decode cX6_doPasses 84 = .ok (.iinc 3 1, 3) := by decide +kernel
theorem dX6_doPasses_87 : decode cX6_doPasses 87 = .ok (.goto (-73), 3) := by decide +kernel
theorem dX6_doPasses_90 : decode cX6_doPasses 90 = .ok (.iload_n 2, 1) := by decide +kernel
theorem dX6_doPasses_91 : decode cX6_doPasses 91 = .ok (.ireturn, 1) := by decide +kernel
theorem dX6_deduceBy_0 : decode cX6_deduceBy 0 = .ok (.iconst 0, 1) := by decide +kernel
theorem dX6_deduceBy_1 : decode cX6_deduceBy 1 = .ok (.istore_n 3, 1) := by decide +kernel
theorem dX6_deduceBy_2 : decode cX6_deduceBy 2 = .ok (.iconst 0, 1) := by decide +kernel
theorem dX6_deduceBy_3 : decode cX6_deduceBy 3 = .ok (.istore 4, 2) := by decide +kernel
theorem dX6_deduceBy_5 : decode cX6_deduceBy 5 = .ok (.iload 4, 2) := by decide +kernel
theorem dX6_deduceBy_7 : decode cX6_deduceBy 7 = .ok (.aload_n 1, 1) := by decide +kernel
theorem dX6_deduceBy_8 : decode cX6_deduceBy 8 = .ok (.getfield 61, 3) := by decide +kernel
theorem dX6_deduceBy_11 : decode cX6_deduceBy 11 = .ok (.if_icmp .ge 69, 3) := by decide +kernel
theorem dX6_deduceBy_14 : decode cX6_deduceBy 14 = .ok (.iconst 1, 1) := by decide +kernel
theorem dX6_deduceBy_15 : decode cX6_deduceBy 15 = .ok (.istore 5, 2) := by decide +kernel
theorem dX6_deduceBy_17 : decode cX6_deduceBy 17 = .ok (.iload 5, 2) := by decide +kernel
theorem dX6_deduceBy_19 : decode cX6_deduceBy 19 = .ok (.iload_n 2, 1) := by decide +kernel
theorem dX6_deduceBy_20 : decode cX6_deduceBy 20 = .ok (.if_icmp .gt 54, 3) := by decide +kernel
theorem dX6_deduceBy_23 : decode cX6_deduceBy 23 = .ok (.aload_n 0, 1) := by decide +kernel
theorem dX6_deduceBy_24 : decode cX6_deduceBy 24 = .ok (.aload_n 1, 1) := by decide +kernel
theorem dX6_deduceBy_25 : decode cX6_deduceBy 25 = .ok (.iload 4, 2) := by decide +kernel
theorem dX6_deduceBy_27 : decode cX6_deduceBy 27 = .ok (.iload 5, 2) := by decide +kernel
theorem dX6_deduceBy_29 : decode cX6_deduceBy 29 = .ok (.iload_n 2, 1) := by decide +kernel
theorem dX6_deduceBy_30 : decode cX6_deduceBy 30 = .ok (.invokevirtual 66, 3) := by decide +kernel
theorem dX6_deduceBy_33 : decode cX6_deduceBy 33 = .ok (.ifCond .eq 35, 3) := by decide +kernel
theorem dX6_deduceBy_36 : decode cX6_deduceBy 36 = .ok (.aload_n 0, 1) := by decide +kernel
theorem dX6_deduceBy_37 : decode cX6_deduceBy 37 = .ok (.aload_n 0, 1) := by decide +kernel
theorem dX6_deduceBy_38 : decode cX6_deduceBy 38 = .ok (.getfield 22, 3) := by decide +kernel
theorem dX6_deduceBy_41 : decode cX6_deduceBy 41 = .ok (.aload_n 0, 1) := by decide +kernel
theorem dX6_deduceBy_42 : decode cX6_deduceBy 42 = .ok (.aload_n 1, 1) := by decide +kernel
theorem dX6_deduceBy_43 : decode cX6_deduceBy 43 = .ok (.invokevirtual 79, 3) := by decide +kernel
theorem dX6_deduceBy_46 : decode cX6_deduceBy 46 = .ok (.invokestatic 90, 3) := by decide +kernel
theorem dX6_deduceBy_49 : decode cX6_deduceBy 49 = .ok (.putfield 22, 3) := by decide +kernel
theorem dX6_deduceBy_52 : decode cX6_deduceBy 52 = .ok (.aload_n 0, 1) := by decide +kernel
theorem dX6_deduceBy_53 : decode cX6_deduceBy 53 = .ok (.aload_n 1, 1) := by decide +kernel
theorem dX6_deduceBy_54 : decode cX6_deduceBy 54 = .ok (.getfield 70, 3) := by decide +kernel
theorem dX6_deduceBy_57 : decode cX6_deduceBy 57 = .ok (.iload 4, 2) := by decide +kernel
theorem dX6_deduceBy_59 : decode cX6_deduceBy 59 = .ok (.iaload, 1) := by decide +kernel
theorem dX6_deduceBy_60 : decode cX6_deduceBy 60 = .ok (.iload 5, 2) := by decide +kernel
theorem dX6_deduceBy_62 : decode cX6_deduceBy 62 = .ok (.invokevirtual 96, 3) := by decide +kernel
theorem dX6_deduceBy_65 : decode cX6_deduceBy 65 = .ok (.iinc 3 1, 3) := by decide +kernel
theorem dX6_deduceBy_68 : decode cX6_deduceBy 68 = .ok (.iinc 5 1, 3) := by decide +kernel
theorem dX6_deduceBy_71 : decode cX6_deduceBy 71 = .ok (.goto (-54), 3) := by decide +kernel
theorem dX6_deduceBy_74 : decode cX6_deduceBy 74 = .ok (.iinc 4 1, 3) := by decide +kernel
theorem dX6_deduceBy_77 : decode cX6_deduceBy 77 = .ok (.goto (-72), 3) := by decide +kernel
theorem dX6_deduceBy_80 : decode cX6_deduceBy 80 = .ok (.iload_n 3, 1) := by decide +kernel
theorem dX6_deduceBy_81 : decode cX6_deduceBy 81 = .ok (.ireturn, 1) := by decide +kernel
theorem dX6_hasValue_0 : decode cX6_hasValue 0 = .ok (.aload_n 0, 1) := by decide +kernel
theorem dX6_hasValue_1 : decode cX6_hasValue 1 = .ok (.getfield 9, 3) := by decide +kernel
theorem dX6_hasValue_4 : decode cX6_hasValue 4 = .ok (.iload_n 1, 1) := by decide +kernel
theorem dX6_hasValue_5 : decode cX6_hasValue 5 = .ok (.iaload, 1) := by decide +kernel
theorem dX6_hasValue_6 : decode cX6_hasValue 6 = .ok (.iload_n 2, 1) := by decide +kernel
theorem dX6_hasValue_7 : decode cX6_hasValue 7 = .ok (.iconst 1, 1) := by decide +kernel
theorem dX6_hasValue_8 : decode cX6_hasValue 8 = .ok (.isub, 1) := by decide +kernel
theorem dX6_hasValue_9 : decode cX6_hasValue 9 = .ok (.ishr, 1) := by decide +kernel
theorem dX6_hasValue_10 : decode cX6_hasValue 10 = .ok (.iconst 1, 1) := by decide +kernel
theorem dX6_hasValue_11 : decode cX6_hasValue 11 = .ok (.iand, 1) := by decide +kernel
theorem dX6_hasValue_12 : decode cX6_hasValue 12 = .ok (.ifCond .eq 7, 3) := by decide +kernel
theorem dX6_hasValue_15 : decode cX6_hasValue 15 = .ok (.iconst 1, 1) := by decide +kernel
theorem dX6_hasValue_16 : decode cX6_hasValue 16 = .ok (.goto 4, 3) := by decide +kernel
theorem dX6_hasValue_19 : decode cX6_hasValue 19 = .ok (.iconst 0, 1) := by decide +kernel
theorem dX6_hasValue_20 : decode cX6_hasValue 20 = .ok (.ireturn, 1) := by decide +kernel
theorem dX6_gradeOf_0 : decode cX6_gradeOf 0 = .ok (.iconst 0, 1) := by decide +kernel
theorem dX6_gradeOf_1 : decode cX6_gradeOf 1 = .ok (.istore_n 2, 1) := by decide +kernel
theorem dX6_gradeOf_2 : decode cX6_gradeOf 2 = .ok (.iconst 0, 1) := by decide +kernel
theorem dX6_gradeOf_3 : decode cX6_gradeOf 3 = .ok (.istore_n 3, 1) := by decide +kernel
theorem dX6_gradeOf_4 : decode cX6_gradeOf 4 = .ok (.iload_n 3, 1) := by decide +kernel
theorem dX6_gradeOf_5 : decode cX6_gradeOf 5 = .ok (.aload_n 1, 1) := by decide +kernel
theorem dX6_gradeOf_6 : decode cX6_gradeOf 6 = .ok (.getfield 61, 3) := by decide +kernel
theorem dX6_gradeOf_9 : decode cX6_gradeOf 9 = .ok (.if_icmp .ge 30, 3) := by decide +kernel
theorem dX6_gradeOf_12 : decode cX6_gradeOf 12 = .ok (.aload_n 0, 1) := by decide +kernel
theorem dX6_gradeOf_13 : decode cX6_gradeOf 13 = .ok (.getfield 9, 3) := by decide +kernel
theorem dX6_gradeOf_16 : decode cX6_gradeOf 16 = .ok (.aload_n 1, 1) := by decide +kernel
theorem dX6_gradeOf_17 : decode cX6_gradeOf 17 = .ok (.getfield 70, 3) := by decide +kernel
theorem dX6_gradeOf_20 : decode cX6_gradeOf 20 = .ok (.iload_n 3, 1) := by decide +kernel
theorem dX6_gradeOf_21 : decode cX6_gradeOf 21 = .ok (.iaload, 1) := by decide +kernel
theorem dX6_gradeOf_22 : decode cX6_gradeOf 22 = .ok (.iaload, 1) := by decide +kernel
theorem dX6_gradeOf_23 : decode cX6_gradeOf 23 = .ok (.invokestatic 37, 3) := by decide +kernel
theorem dX6_gradeOf_26 : decode cX6_gradeOf 26 = .ok (.iconst 1, 1) := by decide +kernel
theorem dX6_gradeOf_27 : decode cX6_gradeOf 27 = .ok (.if_icmp .le 6, 3) := by decide +kernel
theorem dX6_gradeOf_30 : decode cX6_gradeOf 30 = .ok (.iinc 2 1, 3) := by decide +kernel
theorem dX6_gradeOf_33 : decode cX6_gradeOf 33 = .ok (.iinc 3 1, 3) := by decide +kernel
theorem dX6_gradeOf_36 : decode cX6_gradeOf 36 = .ok (.goto (-32), 3) := by decide +kernel
theorem dX6_gradeOf_39 : decode cX6_gradeOf 39 = .ok (.iload_n 2, 1) := by decide +kernel
theorem dX6_gradeOf_40 : decode cX6_gradeOf 40 = .ok (.ireturn, 1) := by decide +kernel
theorem dX6_isRefuted_0 : decode cX6_isRefuted 0 = .ok (.aload_n 0, 1) := by decide +kernel
theorem dX6_isRefuted_1 : decode cX6_isRefuted 1 = .ok (.aload_n 1, 1) := by decide +kernel
theorem dX6_isRefuted_2 : decode cX6_isRefuted 2 = .ok (.getfield 70, 3) := by decide +kernel
theorem dX6_isRefuted_5 : decode cX6_isRefuted 5 = .ok (.iload_n 2, 1) := by decide +kernel
theorem dX6_isRefuted_6 : decode cX6_isRefuted 6 = .ok (.iaload, 1) := by decide +kernel
theorem dX6_isRefuted_7 : decode cX6_isRefuted 7 = .ok (.iload_n 3, 1) := by decide +kernel
theorem dX6_isRefuted_8 : decode cX6_isRefuted 8 = .ok (.invokevirtual 43, 3) := by decide +kernel
theorem dX6_isRefuted_11 : decode cX6_isRefuted 11 = .ok (.ifCond .ne 5, 3) := by decide +kernel
theorem dX6_isRefuted_14 : decode cX6_isRefuted 14 = .ok (.iconst 0, 1) := by decide +kernel
theorem dX6_isRefuted_15 : decode cX6_isRefuted 15 = .ok (.ireturn, 1) := by decide +kernel
theorem dX6_isRefuted_16 : decode cX6_isRefuted 16 = .ok (.iconst 0, 1) := by decide +kernel
theorem dX6_isRefuted_17 : decode cX6_isRefuted 17 = .ok (.istore 5, 2) := by decide +kernel
theorem dX6_isRefuted_19 : decode cX6_isRefuted 19 = .ok (.iload 5, 2) := by decide +kernel
theorem dX6_isRefuted_21 : decode cX6_isRefuted 21 = .ok (.aload_n 1, 1) := by decide +kernel
theorem dX6_isRefuted_22 : decode cX6_isRefuted 22 = .ok (.getfield 61, 3) := by decide +kernel
theorem dX6_isRefuted_25 : decode cX6_isRefuted 25 = .ok (.if_icmp .ge 22, 3) := by decide +kernel
theorem dX6_isRefuted_28 : decode cX6_isRefuted 28 = .ok (.aload_n 0, 1) := by decide +kernel
theorem dX6_isRefuted_29 : decode cX6_isRefuted 29 = .ok (.getfield 15, 3) := by decide +kernel
theorem dX6_isRefuted_32 : decode cX6_isRefuted 32 = .ok (.aload_n 1, 1) := by decide +kernel
theorem dX6_isRefuted_33 : decode cX6_isRefuted 33 = .ok (.getfield 70, 3) := by decide +kernel
theorem dX6_isRefuted_36 : decode cX6_isRefuted 36 = .ok (.iload 5, 2) := by decide +kernel
theorem dX6_isRefuted_38 : decode cX6_isRefuted 38 = .ok (.iaload, 1) := by decide +kernel
theorem dX6_isRefuted_39 : decode cX6_isRefuted 39 = .ok (.iconst 0, 1) := by decide +kernel
theorem dX6_isRefuted_40 : decode cX6_isRefuted 40 = .ok (.iastore, 1) := by decide +kernel
theorem dX6_isRefuted_41 : decode cX6_isRefuted 41 = .ok (.iinc 5 1, 3) := by decide +kernel
theorem dX6_isRefuted_44 : decode cX6_isRefuted 44 = .ok (.goto (-25), 3) := by decide +kernel
theorem dX6_isRefuted_47 : decode cX6_isRefuted 47 = .ok (.aload_n 0, 1) := by decide +kernel
theorem dX6_isRefuted_48 : decode cX6_isRefuted 48 = .ok (.getfield 15, 3) := by decide +kernel
theorem dX6_isRefuted_51 : decode cX6_isRefuted 51 = .ok (.aload_n 1, 1) := by decide +kernel
theorem dX6_isRefuted_52 : decode cX6_isRefuted 52 = .ok (.getfield 70, 3) := by decide +kernel
theorem dX6_isRefuted_55 : decode cX6_isRefuted 55 = .ok (.iload_n 2, 1) := by decide +kernel
theorem dX6_isRefuted_56 : decode cX6_isRefuted 56 = .ok (.iaload, 1) := by decide +kernel
theorem dX6_isRefuted_57 : decode cX6_isRefuted 57 = .ok (.iload_n 3, 1) := by decide +kernel
theorem dX6_isRefuted_58 : decode cX6_isRefuted 58 = .ok (.iastore, 1) := by decide +kernel
theorem dX6_isRefuted_59 : decode cX6_isRefuted 59 = .ok (.aload_n 0, 1) := by decide +kernel
theorem dX6_isRefuted_60 : decode cX6_isRefuted 60 = .ok (.aload_n 1, 1) := by decide +kernel
theorem dX6_isRefuted_61 : decode cX6_isRefuted 61 = .ok (.iload_n 2, 1) := by decide +kernel
theorem dX6_isRefuted_62 : decode cX6_isRefuted 62 = .ok (.iconst 0, 1) := by decide +kernel
theorem dX6_isRefuted_63 : decode cX6_isRefuted 63 = .ok (.iload 4, 2) := by decide +kernel
theorem dX6_isRefuted_65 : decode cX6_isRefuted 65 = .ok (.invokestatic 100, 3) := by decide +kernel
theorem dX6_isRefuted_68 : decode cX6_isRefuted 68 = .ok (.ifCond .ne 7, 3) := by decide +kernel
theorem dX6_isRefuted_71 : decode cX6_isRefuted 71 = .ok (.iconst 1, 1) := by decide +kernel
theorem dX6_isRefuted_72 : decode cX6_isRefuted 72 = .ok (.goto 4, 3) := by decide +kernel
theorem dX6_isRefuted_75 : decode cX6_isRefuted 75 = .ok (.iconst 0, 1) := by decide +kernel
theorem dX6_isRefuted_76 : decode cX6_isRefuted 76 = .ok (.ireturn, 1) := by decide +kernel
theorem dX6_holdsFrom_0 : decode cX6_holdsFrom 0 = .ok (.aload_n 1, 1) := by decide +kernel
theorem dX6_holdsFrom_1 : decode cX6_holdsFrom 1 = .ok (.aload_n 0, 1) := by decide +kernel
theorem dX6_holdsFrom_2 : decode cX6_holdsFrom 2 = .ok (.getfield 15, 3) := by decide +kernel
theorem dX6_holdsFrom_5 : decode cX6_holdsFrom 5 = .ok (.iload 4, 2) := by decide +kernel
theorem dX6_holdsFrom_7 : decode cX6_holdsFrom 7 = .ok (.invokevirtual 104, 3) := by decide +kernel
theorem dX6_holdsFrom_10 : decode cX6_holdsFrom 10 = .ok (.ifCond .eq 5, 3) := by decide +kernel
theorem dX6_holdsFrom_13 : decode cX6_holdsFrom 13 = .ok (.iconst 0, 1) := by decide +kernel
theorem dX6_holdsFrom_14 : decode cX6_holdsFrom 14 = .ok (.ireturn, 1) := by decide +kernel
theorem dX6_holdsFrom_15 : decode cX6_holdsFrom 15 = .ok (.iload_n 3, 1) := by decide +kernel
theorem dX6_holdsFrom_16 : decode cX6_holdsFrom 16 = .ok (.aload_n 1, 1) := by decide +kernel
theorem dX6_holdsFrom_17 : decode cX6_holdsFrom 17 = .ok (.getfield 61, 3) := by decide +kernel
theorem dX6_holdsFrom_20 : decode cX6_holdsFrom 20 = .ok (.if_icmp .lt 5, 3) := by decide +kernel
theorem dX6_holdsFrom_23 : decode cX6_holdsFrom 23 = .ok (.iconst 1, 1) := by decide +kernel
theorem dX6_holdsFrom_24 : decode cX6_holdsFrom 24 = .ok (.ireturn, 1) := by decide +kernel
theorem dX6_holdsFrom_25 : decode cX6_holdsFrom 25 = .ok (.iload_n 3, 1) := by decide +kernel
theorem dX6_holdsFrom_26 : decode cX6_holdsFrom 26 = .ok (.iload_n 2, 1) := by decide +kernel
theorem dX6_holdsFrom_27 : decode cX6_holdsFrom 27 = .ok (.if_icmp .ne 15, 3) := by decide +kernel
theorem dX6_holdsFrom_30 : decode cX6_holdsFrom 30 = .ok (.aload_n 0, 1) := by decide +kernel
theorem dX6_holdsFrom_31 : decode cX6_holdsFrom 31 = .ok (.aload_n 1, 1) := by decide +kernel
theorem dX6_holdsFrom_32 : decode cX6_holdsFrom 32 = .ok (.iload_n 2, 1) := by decide +kernel
theorem dX6_holdsFrom_33 : decode cX6_holdsFrom 33 = .ok (.iload_n 3, 1) := by decide +kernel
theorem dX6_holdsFrom_34 : decode cX6_holdsFrom 34 = .ok (.iconst 1, 1) := by decide +kernel
theorem dX6_holdsFrom_35 : decode cX6_holdsFrom 35 = .ok (.iadd, 1) := by decide +kernel
theorem dX6_holdsFrom_36 : decode cX6_holdsFrom 36 = .ok (.iload 4, 2) := by decide +kernel
theorem dX6_holdsFrom_38 : decode cX6_holdsFrom 38 = .ok (.invokestatic 100, 3) := by decide +kernel
theorem dX6_holdsFrom_41 : decode cX6_holdsFrom 41 = .ok (.ireturn, 1) := by decide +kernel
theorem dX6_holdsFrom_42 : decode cX6_holdsFrom 42 = .ok (.aload_n 1, 1) := by decide +kernel
theorem dX6_holdsFrom_43 : decode cX6_holdsFrom 43 = .ok (.getfield 70, 3) := by decide +kernel
theorem dX6_holdsFrom_46 : decode cX6_holdsFrom 46 = .ok (.iload_n 3, 1) := by decide +kernel
theorem dX6_holdsFrom_47 : decode cX6_holdsFrom 47 = .ok (.iaload, 1) := by decide +kernel
theorem dX6_holdsFrom_48 : decode cX6_holdsFrom 48 = .ok (.istore 5, 2) := by decide +kernel
theorem dX6_holdsFrom_50 : decode cX6_holdsFrom 50 = .ok (.iconst 1, 1) := by decide +kernel
theorem dX6_holdsFrom_51 : decode cX6_holdsFrom 51 = .ok (.istore 6, 2) := by decide +kernel
theorem dX6_holdsFrom_53 : decode cX6_holdsFrom 53 = .ok (.iload 6, 2) := by decide +kernel
theorem dX6_holdsFrom_55 : decode cX6_holdsFrom 55 = .ok (.iload 4, 2) := by decide +kernel
theorem dX6_holdsFrom_57 : decode cX6_holdsFrom 57 = .ok (.if_icmp .gt 45, 3) := by decide +kernel
theorem dX6_holdsFrom_60 : decode cX6_holdsFrom 60 = .ok (.aload_n 0, 1) := by decide +kernel
theorem dX6_holdsFrom_61 : decode cX6_holdsFrom 61 = .ok (.iload 5, 2) := by decide +kernel
theorem dX6_holdsFrom_63 : decode cX6_holdsFrom 63 = .ok (.iload 6, 2) := by decide +kernel
theorem dX6_holdsFrom_65 : decode cX6_holdsFrom 65 = .ok (.invokevirtual 43, 3) := by decide +kernel
theorem dX6_holdsFrom_68 : decode cX6_holdsFrom 68 = .ok (.ifCond .eq 28, 3) := by decide +kernel
theorem dX6_holdsFrom_71 : decode cX6_holdsFrom 71 = .ok (.aload_n 0, 1) := by decide +kernel
theorem dX6_holdsFrom_72 : decode cX6_holdsFrom 72 = .ok (.getfield 15, 3) := by decide +kernel
theorem dX6_holdsFrom_75 : decode cX6_holdsFrom 75 = .ok (.iload 5, 2) := by decide +kernel
theorem dX6_holdsFrom_77 : decode cX6_holdsFrom 77 = .ok (.iload 6, 2) := by decide +kernel
theorem dX6_holdsFrom_79 : decode cX6_holdsFrom 79 = .ok (.iastore, 1) := by decide +kernel
theorem dX6_holdsFrom_80 : decode cX6_holdsFrom 80 = .ok (.aload_n 0, 1) := by decide +kernel
theorem dX6_holdsFrom_81 : decode cX6_holdsFrom 81 = .ok (.aload_n 1, 1) := by decide +kernel
theorem dX6_holdsFrom_82 : decode cX6_holdsFrom 82 = .ok (.iload_n 2, 1) := by decide +kernel
theorem dX6_holdsFrom_83 : decode cX6_holdsFrom 83 = .ok (.iload_n 3, 1) := by decide +kernel
theorem dX6_holdsFrom_84 : decode cX6_holdsFrom 84 = .ok (.iconst 1, 1) := by decide +kernel
theorem dX6_holdsFrom_85 : decode cX6_holdsFrom 85 = .ok (.iadd, 1) := by decide +kernel
theorem dX6_holdsFrom_86 : decode cX6_holdsFrom 86 = .ok (.iload 4, 2) := by decide +kernel
theorem dX6_holdsFrom_88 : decode cX6_holdsFrom 88 = .ok (.invokestatic 100, 3) := by decide +kernel
theorem dX6_holdsFrom_91 : decode cX6_holdsFrom 91 = .ok (.ifCond .eq 5, 3) := by decide +kernel
theorem dX6_holdsFrom_94 : decode cX6_holdsFrom 94 = .ok (.iconst 1, 1) := by decide +kernel
theorem dX6_holdsFrom_95 : decode cX6_holdsFrom 95 = .ok (.ireturn, 1) := by decide +kernel
theorem dX6_holdsFrom_96 : decode cX6_holdsFrom 96 = .ok (.iinc 6 1, 3) := by decide +kernel
theorem dX6_holdsFrom_99 : decode cX6_holdsFrom 99 = .ok (.goto (-46), 3) := by decide +kernel
theorem dX6_holdsFrom_102 : decode cX6_holdsFrom 102 = .ok (.aload_n 0, 1) := by decide +kernel
theorem dX6_holdsFrom_103 : decode cX6_holdsFrom 103 = .ok (.getfield 15, 3) := by decide +kernel
theorem dX6_holdsFrom_106 : decode cX6_holdsFrom 106 = .ok (.iload 5, 2) := by decide +kernel
theorem dX6_holdsFrom_108 : decode cX6_holdsFrom 108 = .ok (.iconst 0, 1) := by decide +kernel
theorem dX6_holdsFrom_109 : decode cX6_holdsFrom 109 = .ok (.iastore, 1) := by decide +kernel
theorem dX6_holdsFrom_110 : decode cX6_holdsFrom 110 = .ok (.iconst 0, 1) := by decide +kernel
theorem dX6_holdsFrom_111 : decode cX6_holdsFrom 111 = .ok (.ireturn, 1) := by decide +kernel
theorem dX7_init_0 : decode cX7_init 0 = .ok (.aload_n 0, 1) := by decide +kernel
theorem dX7_init_1 : decode cX7_init 1 = .ok (.invokespecial 3, 3) := by decide +kernel
theorem dX7_init_4 : decode cX7_init 4 = .ok (.aload_n 0, 1) := by decide +kernel
theorem dX7_init_5 : decode cX7_init 5 = .ok (.getstatic 9, 3) := by decide +kernel
theorem dX7_init_8 : decode cX7_init 8 = .ok (.putfield 15, 3) := by decide +kernel
theorem dX7_init_11 : decode cX7_init 11 = .ok (.aload_n 0, 1) := by decide +kernel
theorem dX7_init_12 : decode cX7_init 12 = .ok (.iconst 5, 1) := by decide +kernel
theorem dX7_init_13 : decode cX7_init 13 = .ok (.newarray .int, 2) := by decide +kernel
theorem dX7_init_15 : decode cX7_init 15 = .ok (.putfield 20, 3) := by decide +kernel
theorem dX7_init_18 : decode cX7_init 18 = .ok (.return_, 1) := by decide +kernel
theorem dX7_begin_0 : decode cX7_begin 0 = .ok (.aload_n 0, 1) := by decide +kernel
theorem dX7_begin_1 : decode cX7_begin 1 = .ok (.aload_n 1, 1) := by decide +kernel
theorem dX7_begin_2 : decode cX7_begin 2 = .ok (.putfield 15, 3) := by decide +kernel
theorem dX7_begin_5 : decode cX7_begin 5 = .ok (.aload_n 0, 1) := by decide +kernel
theorem dX7_begin_6 : decode cX7_begin 6 = .ok (.iconst 0, 1) := by decide +kernel
theorem dX7_begin_7 : decode cX7_begin 7 = .ok (.putfield 24, 3) := by decide +kernel
theorem dX7_begin_10 : decode cX7_begin 10 = .ok (.aload_n 0, 1) := by decide +kernel
theorem dX7_begin_11 : decode cX7_begin 11 = .ok (.iconst 0, 1) := by decide +kernel
theorem dX7_begin_12 : decode cX7_begin 12 = .ok (.putfield 28, 3) := by decide +kernel
theorem dX7_begin_15 : decode cX7_begin 15 = .ok (.aload_n 0, 1) := by decide +kernel
theorem dX7_begin_16 : decode cX7_begin 16 = .ok (.iconst 0, 1) := by decide +kernel
theorem dX7_begin_17 : decode cX7_begin 17 = .ok (.putfield 31, 3) := by decide +kernel
theorem dX7_begin_20 : decode cX7_begin 20 = .ok (.aload_n 0, 1) := by decide +kernel
theorem dX7_begin_21 : decode cX7_begin 21 = .ok (.iconst 0, 1) := by decide +kernel
theorem dX7_begin_22 : decode cX7_begin 22 = .ok (.putfield 34, 3) := by decide +kernel
theorem dX7_begin_25 : decode cX7_begin 25 = .ok (.return_, 1) := by decide +kernel
theorem dX7_addCell_0 : decode cX7_addCell 0 = .ok (.aload_n 0, 1) := by decide +kernel
theorem dX7_addCell_1 : decode cX7_addCell 1 = .ok (.getfield 31, 3) := by decide +kernel
theorem dX7_addCell_4 : decode cX7_addCell 4 = .ok (.aload_n 0, 1) := by decide +kernel
