theorem dX5_init_0 : decode cX5_init 0 = .ok (.aload_n 0, 1) := by decide +kernel
theorem dX5_init_1 : decode cX5_init 1 = .ok (.invokespecial 1, 3) := by decide +kernel
theorem dX5_init_4 : decode cX5_init 4 = .ok (.aload_n 0, 1) := by decide +kernel
theorem dX5_init_5 : decode cX5_init 5 = .ok (.new 7, 3) := by decide +kernel
theorem dX5_init_8 : decode cX5_init 8 = .ok (.dup, 1) := by decide +kernel
theorem dX5_init_9 : decode cX5_init 9 = .ok (.invokespecial 9, 3) := by decide +kernel
theorem dX5_init_12 : decode cX5_init 12 = .ok (.putfield 10, 3) := by decide +kernel
theorem dX5_init_15 : decode cX5_init 15 = .ok (.aload_n 0, 1) := by decide +kernel
theorem dX5_init_16 : decode cX5_init 16 = .ok (.new 16, 3) := by decide +kernel
theorem dX5_init_19 : decode cX5_init 19 = .ok (.dup, 1) := by decide +kernel
theorem dX5_init_20 : decode cX5_init 20 = .ok (.aload_n 0, 1) := by decide +kernel
theorem dX5_init_21 : decode cX5_init 21 = .ok (.getfield 10, 3) := by decide +kernel
theorem dX5_init_24 : decode cX5_init 24 = .ok (.invokespecial 18, 3) := by decide +kernel
theorem dX5_init_27 : decode cX5_init 27 = .ok (.putfield 21, 3) := by decide +kernel
theorem dX5_init_30 : decode cX5_init 30 = .ok (.aload_n 0, 1) := by decide +kernel
theorem dX5_init_31 : decode cX5_init 31 = .ok (.new 25, 3) := by decide +kernel
theorem dX5_init_34 : decode cX5_init 34 = .ok (.dup, 1) := by decide +kernel
theorem dX5_init_35 : decode cX5_init 35 = .ok (.aload_n 0, 1) := by decide +kernel
theorem dX5_init_36 : decode cX5_init 36 = .ok (.getfield 10, 3) := by decide +kernel
theorem dX5_init_39 : decode cX5_init 39 = .ok (.aload_n 0, 1) := by decide +kernel
theorem dX5_init_40 : decode cX5_init 40 = .ok (.getfield 21, 3) := by decide +kernel
theorem dX5_init_43 : decode cX5_init 43 = .ok (.invokespecial 27, 3) := by decide +kernel
theorem dX5_init_46 : decode cX5_init 46 = .ok (.putfield 30, 3) := by decide +kernel
theorem dX5_init_49 : decode cX5_init 49 = .ok (.aload_n 0, 1) := by decide +kernel
theorem dX5_init_50 : decode cX5_init 50 = .ok (.new 34, 3) := by decide +kernel
theorem dX5_init_53 : decode cX5_init 53 = .ok (.dup, 1) := by decide +kernel
theorem dX5_init_54 : decode cX5_init 54 = .ok (.aload_n 0, 1) := by decide +kernel
theorem dX5_init_55 : decode cX5_init 55 = .ok (.getfield 10, 3) := by decide +kernel
theorem dX5_init_58 : decode cX5_init 58 = .ok (.aload_n 0, 1) := by decide +kernel
theorem dX5_init_59 : decode cX5_init 59 = .ok (.getfield 21, 3) := by decide +kernel
theorem dX5_init_62 : decode cX5_init 62 = .ok (.invokespecial 36, 3) := by decide +kernel
theorem dX5_init_65 : decode cX5_init 65 = .ok (.putfield 37, 3) := by decide +kernel
theorem dX5_init_68 : decode cX5_init 68 = .ok (.aload_n 0, 1) := by decide +kernel
theorem dX5_init_69 : decode cX5_init 69 = .ok (.new 41, 3) := by decide +kernel
theorem dX5_init_72 : decode cX5_init 72 = .ok (.dup, 1) := by decide +kernel
theorem dX5_init_73 : decode cX5_init 73 = .ok (.aload_n 0, 1) := by decide +kernel
theorem dX5_init_74 : decode cX5_init 74 = .ok (.getfield 10, 3) := by decide +kernel
theorem dX5_init_77 : decode cX5_init 77 = .ok (.aload_n 0, 1) := by decide +kernel
theorem dX5_init_78 : decode cX5_init 78 = .ok (.getfield 21, 3) := by decide +kernel
theorem dX5_init_81 : decode cX5_init 81 = .ok (.aload_n 0, 1) := by decide +kernel
theorem dX5_init_82 : decode cX5_init 82 = .ok (.getfield 30, 3) := by decide +kernel
theorem dX5_init_85 : decode cX5_init 85 = .ok (.invokespecial 43, 3) := by decide +kernel
theorem dX5_init_88 : decode cX5_init 88 = .ok (.putfield 46, 3) := by decide +kernel
theorem dX5_init_91 : decode cX5_init 91 = .ok (.aload_n 0, 1) := by decide +kernel
theorem dX5_init_92 : decode cX5_init 92 = .ok (.bipush 8, 2) := by decide +kernel
theorem dX5_init_94 : decode cX5_init 94 = .ok (.newarray .int, 2) := by decide +kernel
theorem dX5_init_96 : decode cX5_init 96 = .ok (.putfield 50, 3) := by decide +kernel
theorem dX5_init_99 : decode cX5_init 99 = .ok (.aload_n 0, 1) := by decide +kernel
theorem dX5_init_100 : decode cX5_init 100 = .ok (.iconst 0, 1) := by decide +kernel
theorem dX5_init_101 : decode cX5_init 101 = .ok (.putfield 54, 3) := by decide +kernel
theorem dX5_init_104 : decode cX5_init 104 = .ok (.aload_n 0, 1) := by decide +kernel
theorem dX5_init_105 : decode cX5_init 105 = .ok (.bipush 10, 2) := by decide +kernel
theorem dX5_init_107 : decode cX5_init 107 = .ok (.putfield 58, 3) := by decide +kernel
theorem dX5_init_110 : decode cX5_init 110 = .ok (.aload_n 0, 1) := by decide +kernel
theorem dX5_init_111 : decode cX5_init 111 = .ok (.iconst 0, 1) := by decide +kernel
theorem dX5_init_112 : decode cX5_init 112 = .ok (.putfield 62, 3) := by decide +kernel
theorem dX5_init_115 : decode cX5_init 115 = .ok (.aload_n 0, 1) := by decide +kernel
theorem dX5_init_116 : decode cX5_init 116 = .ok (.iconst 0, 1) := by decide +kernel
theorem dX5_init_117 : decode cX5_init 117 = .ok (.putfield 65, 3) := by decide +kernel
theorem dX5_init_120 : decode cX5_init 120 = .ok (.aload_n 0, 1) := by decide +kernel
theorem dX5_init_121 : decode cX5_init 121 = .ok (.iconst 0, 1) := by decide +kernel
theorem dX5_init_122 : decode cX5_init 122 = .ok (.putfield 68, 3) := by decide +kernel
theorem dX5_init_125 : decode cX5_init 125 = .ok (.return_, 1) := by decide +kernel
theorem dX5_machine_0 : decode cX5_machine 0 = .ok (.iload_n 1, 1) := by decide +kernel
theorem dX5_machine_1 : decode cX5_machine 1 = .ok (.invokestatic 71, 3) := by decide +kernel
theorem dX5_machine_4 : decode cX5_machine 4 = .ok (.ifCond .eq 10, 3) := by decide +kernel
theorem dX5_machine_7 : decode cX5_machine 7 = .ok (.iload_n 2, 1) := by decide +kernel
theorem dX5_machine_8 : decode cX5_machine 8 = .ok (.invokestatic 71, 3) := by decide +kernel
theorem dX5_machine_11 : decode cX5_machine 11 = .ok (.ifCond .ne 6, 3) := by decide +kernel
theorem dX5_machine_14 : decode cX5_machine 14 = .ok (.bipush (-2), 2) := by decide +kernel
theorem dX5_machine_16 : decode cX5_machine 16 = .ok (.ireturn, 1) := by decide +kernel
theorem dX5_machine_17 : decode cX5_machine 17 = .ok (.aload_n 0, 1) := by decide +kernel
theorem dX5_machine_18 : decode cX5_machine 18 = .ok (.getfield 10, 3) := by decide +kernel
theorem dX5_machine_21 : decode cX5_machine 21 = .ok (.getfield 75, 3) := by decide +kernel
theorem dX5_machine_24 : decode cX5_machine 24 = .ok (.iconst 5, 1) := by decide +kernel
theorem dX5_machine_25 : decode cX5_machine 25 = .ok (.if_icmp .lt 6, 3) := by decide +kernel
theorem dX5_machine_28 : decode cX5_machine 28 = .ok (.bipush (-4), 2) := by decide +kernel
theorem dX5_machine_30 : decode cX5_machine 30 = .ok (.ireturn, 1) := by decide +kernel
theorem dX5_machine_31 : decode cX5_machine 31 = .ok (.aload_n 0, 1) := by decide +kernel
theorem dX5_machine_32 : decode cX5_machine 32 = .ok (.getfield 10, 3) := by decide +kernel
theorem dX5_machine_35 : decode cX5_machine 35 = .ok (.iload_n 1, 1) := by decide +kernel
theorem dX5_machine_36 : decode cX5_machine 36 = .ok (.iload_n 2, 1) := by decide +kernel
theorem dX5_machine_37 : decode cX5_machine 37 = .ok (.invokevirtual 78, 3) := by decide +kernel
theorem dX5_machine_40 : decode cX5_machine 40 = .ok (.ireturn, 1) := by decide +kernel
theorem dX5_work_0 : decode cX5_work 0 = .ok (.iload_n 1, 1) := by decide +kernel
theorem dX5_work_1 : decode cX5_work 1 = .ok (.invokestatic 71, 3) := by decide +kernel
theorem dX5_work_4 : decode cX5_work 4 = .ok (.ifCond .eq 32, 3) := by decide +kernel
theorem dX5_work_7 : decode cX5_work 7 = .ok (.iload_n 2, 1) := by decide +kernel
theorem dX5_work_8 : decode cX5_work 8 = .ok (.invokestatic 71, 3) := by decide +kernel
theorem dX5_work_11 : decode cX5_work 11 = .ok (.ifCond .eq 25, 3) := by decide +kernel
theorem dX5_work_14 : decode cX5_work 14 = .ok (.aload_n 0, 1) := by decide +kernel
theorem dX5_work_15 : decode cX5_work 15 = .ok (.iload_n 3, 1) := by decide +kernel
theorem dX5_work_16 : decode cX5_work 16 = .ok (.iload 4, 2) := by decide +kernel
theorem dX5_work_18 : decode cX5_work 18 = .ok (.invokevirtual 82, 3) := by decide +kernel
theorem dX5_work_21 : decode cX5_work 21 = .ok (.ifCond .eq 15, 3) := by decide +kernel
theorem dX5_work_24 : decode cX5_work 24 = .ok (.aload_n 0, 1) := by decide +kernel
theorem dX5_work_25 : decode cX5_work 25 = .ok (.getfield 10, 3) := by decide +kernel
theorem dX5_work_28 : decode cX5_work 28 = .ok (.iload 5, 2) := by decide +kernel
theorem dX5_work_30 : decode cX5_work 30 = .ok (.invokevirtual 86, 3) := by decide +kernel
theorem dX5_work_33 : decode cX5_work 33 = .ok (.ifCond .ne 6, 3) := by decide +kernel
theorem dX5_work_36 : decode cX5_work 36 = .ok (.bipush (-2), 2) := by decide +kernel
theorem dX5_work_38 : decode cX5_work 38 = .ok (.ireturn, 1) := by decide +kernel
theorem dX5_work_39 : decode cX5_work 39 = .ok (.aload_n 0, 1) := by decide +kernel
theorem dX5_work_40 : decode cX5_work 40 = .ok (.getfield 10, 3) := by decide +kernel
theorem dX5_work_43 : decode cX5_work 43 = .ok (.iload_n 1, 1) := by decide +kernel
theorem dX5_work_44 : decode cX5_work 44 = .ok (.iload_n 2, 1) := by decide +kernel
theorem dX5_work_45 : decode cX5_work 45 = .ok (.iload_n 3, 1) := by decide +kernel
theorem dX5_work_46 : decode cX5_work 46 = .ok (.iload 4, 2) := by decide +kernel
theorem dX5_work_48 : decode cX5_work 48 = .ok (.invokevirtual 89, 3) := by decide +kernel
theorem dX5_work_51 : decode cX5_work 51 = .ok (.istore 6, 2) := by decide +kernel
theorem dX5_work_53 : decode cX5_work 53 = .ok (.aload_n 0, 1) := by decide +kernel
theorem dX5_work_54 : decode cX5_work 54 = .ok (.getfield 21, 3) := by decide +kernel
theorem dX5_work_57 : decode cX5_work 57 = .ok (.iload 6, 2) := by decide +kernel
theorem dX5_work_59 : decode cX5_work 59 = .ok (.iload 5, 2) := by decide +kernel
theorem dX5_work_61 : decode cX5_work 61 = .ok (.invokevirtual 93, 3) := by decide +kernel
theorem dX5_work_64 : decode cX5_work 64 = .ok (.ifCond .ne 6, 3) := by decide +kernel
theorem dX5_work_67 : decode cX5_work 67 = .ok (.bipush (-3), 2) := by decide +kernel
theorem dX5_work_69 : decode cX5_work 69 = .ok (.ireturn, 1) := by decide +kernel
theorem dX5_work_70 : decode cX5_work 70 = .ok (.aload_n 0, 1) := by decide +kernel
theorem dX5_work_71 : decode cX5_work 71 = .ok (.getfield 10, 3) := by decide +kernel
theorem dX5_work_74 : decode cX5_work 74 = .ok (.getfield 96, 3) := by decide +kernel
theorem dX5_work_77 : decode cX5_work 77 = .ok (.bipush 8, 2) := by decide +kernel
theorem dX5_work_79 : decode cX5_work 79 = .ok (.if_icmp .lt 6, 3) := by decide +kernel
theorem dX5_work_82 : decode cX5_work 82 = .ok (.bipush (-4), 2) := by decide +kernel
theorem dX5_work_84 : decode cX5_work 84 = .ok (.ireturn, 1) := by decide +kernel
theorem dX5_work_85 : decode cX5_work 85 = .ok (.aload_n 0, 1) := by decide +kernel
theorem dX5_work_86 : decode cX5_work 86 = .ok (.getfield 10, 3) := by decide +kernel
theorem dX5_work_89 : decode cX5_work 89 = .ok (.invokevirtual 99, 3) := by decide +kernel
theorem dX5_work_92 : decode cX5_work 92 = .ok (.aload_n 0, 1) := by decide +kernel
theorem dX5_work_93 : decode cX5_work 93 = .ok (.getfield 21, 3) := by decide +kernel
theorem dX5_work_96 : decode cX5_work 96 = .ok (.iload 6, 2) := by decide +kernel
theorem dX5_work_98 : decode cX5_work 98 = .ok (.iload 5, 2) := by decide +kernel
theorem dX5_work_100 : decode cX5_work 100 = .ok (.invokevirtual 102, 3) := by decide +kernel
theorem dX5_work_103 : decode cX5_work 103 = .ok (.aload_n 0, 1) := by decide +kernel
theorem dX5_work_104 : decode cX5_work 104 = .ok (.iconst 0, 1) := by decide +kernel
theorem dX5_work_105 : decode cX5_work 105 = .ok (.putfield 54, 3) := by decide +kernel
theorem dX5_work_108 : decode cX5_work 108 = .ok (.iload 6, 2) := by decide +kernel
theorem dX5_work_110 : decode cX5_work 110 = .ok (.ireturn, 1) := by decide +kernel
theorem dX5_move_0 : decode cX5_move 0 = .ok (.aload_n 0, 1) := by decide +kernel
theorem dX5_move_1 : decode cX5_move 1 = .ok (.getfield 10, 3) := by decide +kernel
theorem dX5_move_4 : decode cX5_move 4 = .ok (.iload_n 1, 1) := by decide +kernel
theorem dX5_move_5 : decode cX5_move 5 = .ok (.invokevirtual 106, 3) := by decide +kernel
theorem dX5_move_8 : decode cX5_move 8 = .ok (.ifCond .eq 22, 3) := by decide +kernel
theorem dX5_move_11 : decode cX5_move 11 = .ok (.aload_n 0, 1) := by decide +kernel
theorem dX5_move_12 : decode cX5_move 12 = .ok (.iload_n 1, 1) := by decide +kernel
theorem dX5_move_13 : decode cX5_move 13 = .ok (.invokevirtual 109, 3) := by decide +kernel
theorem dX5_move_16 : decode cX5_move 16 = .ok (.ifCond .eq 14, 3) := by decide +kernel
theorem dX5_move_19 : decode cX5_move 19 = .ok (.aload_n 0, 1) := by decide +kernel
theorem dX5_move_20 : decode cX5_move 20 = .ok (.getfield 10, 3) := by decide +kernel
theorem dX5_move_23 : decode cX5_move 23 = .ok (.iload_n 2, 1) := by decide +kernel
theorem dX5_move_24 : decode cX5_move 24 = .ok (.invokevirtual 86, 3) := by decide +kernel
theorem dX5_move_27 : decode cX5_move 27 = .ok (.ifCond .ne 6, 3) := by decide +kernel
theorem dX5_move_30 : decode cX5_move 30 = .ok (.bipush (-2), 2) := by decide +kernel
theorem dX5_move_32 : decode cX5_move 32 = .ok (.ireturn, 1) := by decide +kernel
theorem dX5_move_33 : decode cX5_move 33 = .ok (.aload_n 0, 1) := by decide +kernel
theorem dX5_move_34 : decode cX5_move 34 = .ok (.getfield 10, 3) := by decide +kernel
theorem dX5_move_37 : decode cX5_move 37 = .ok (.getfield 112, 3) := by decide +kernel
theorem dX5_move_40 : decode cX5_move 40 = .ok (.iload_n 1, 1) := by decide +kernel
theorem dX5_move_41 : decode cX5_move 41 = .ok (.iaload, 1) := by decide +kernel
theorem dX5_move_42 : decode cX5_move 42 = .ok (.iconst 3, 1) := by decide +kernel
theorem dX5_move_43 : decode cX5_move 43 = .ok (.if_icmp .eq 28, 3) := by decide +kernel
theorem dX5_move_46 : decode cX5_move 46 = .ok (.aload_n 0, 1) := by decide +kernel
theorem dX5_move_47 : decode cX5_move 47 = .ok (.getfield 21, 3) := by decide +kernel
theorem dX5_move_50 : decode cX5_move 50 = .ok (.getfield 115, 3) := by decide +kernel
theorem dX5_move_53 : decode cX5_move 53 = .ok (.iload_n 1, 1) := by decide +kernel
theorem dX5_move_54 : decode cX5_move 54 = .ok (.iaload, 1) := by decide +kernel
theorem dX5_move_55 : decode cX5_move 55 = .ok (.iload_n 2, 1) := by decide +kernel
theorem dX5_move_56 : decode cX5_move 56 = .ok (.if_icmp .eq 15, 3) := by decide +kernel
theorem dX5_move_59 : decode cX5_move 59 = .ok (.aload_n 0, 1) := by decide +kernel
theorem dX5_move_60 : decode cX5_move 60 = .ok (.getfield 21, 3) := by decide +kernel
theorem dX5_move_63 : decode cX5_move 63 = .ok (.iload_n 1, 1) := by decide +kernel
theorem dX5_move_64 : decode cX5_move 64 = .ok (.iload_n 2, 1) := by decide +kernel
theorem dX5_move_65 : decode cX5_move 65 = .ok (.invokevirtual 118, 3) := by decide +kernel
theorem dX5_move_68 : decode cX5_move 68 = .ok (.ifCond .ne 6, 3) := by decide +kernel
theorem dX5_move_71 : decode cX5_move 71 = .ok (.bipush (-3), 2) := by decide +kernel
theorem dX5_move_73 : decode cX5_move 73 = .ok (.ireturn, 1) := by decide +kernel
theorem dX5_move_74 : decode cX5_move 74 = .ok (.aload_n 0, 1) := by decide +kernel
theorem dX5_move_75 : decode cX5_move 75 = .ok (.iload_n 1, 1) := by decide +kernel
theorem dX5_move_76 : decode cX5_move 76 = .ok (.iload_n 2, 1) := by decide +kernel
theorem dX5_move_77 : decode cX5_move 77 = .ok (.invokevirtual 121, 3) := by decide +kernel
theorem dX5_move_80 : decode cX5_move 80 = .ok (.aload_n 0, 1) := by decide +kernel
theorem dX5_move_81 : decode cX5_move 81 = .ok (.iconst 0, 1) := by decide +kernel
theorem dX5_move_82 : decode cX5_move 82 = .ok (.putfield 54, 3) := by decide +kernel
theorem dX5_move_85 : decode cX5_move 85 = .ok (.iconst 1, 1) := by decide +kernel
theorem dX5_move_86 : decode cX5_move 86 = .ok (.ireturn, 1) := by decide +kernel
theorem dX5_price_0 : decode cX5_price 0 = .ok (.iload_n 1, 1) := by decide +kernel
theorem dX5_price_1 : decode cX5_price 1 = .ok (.invokestatic 71, 3) := by decide +kernel
theorem dX5_price_4 : decode cX5_price 4 = .ok (.ifCond .ne 6, 3) := by decide +kernel
theorem dX5_price_7 : decode cX5_price 7 = .ok (.bipush (-2), 2) := by decide +kernel
theorem dX5_price_9 : decode cX5_price 9 = .ok (.ireturn, 1) := by decide +kernel
theorem dX5_price_10 : decode cX5_price 10 = .ok (.aload_n 0, 1) := by decide +kernel
theorem dX5_price_11 : decode cX5_price 11 = .ok (.getfield 58, 3) := by decide +kernel
theorem dX5_price_14 : decode cX5_price 14 = .ok (.istore_n 2, 1) := by decide +kernel
theorem dX5_price_15 : decode cX5_price 15 = .ok (.aload_n 0, 1) := by decide +kernel
theorem dX5_price_16 : decode cX5_price 16 = .ok (.iload_n 1, 1) := by decide +kernel
theorem dX5_price_17 : decode cX5_price 17 = .ok (.putfield 58, 3) := by decide +kernel
theorem dX5_price_20 : decode cX5_price 20 = .ok (.iload_n 2, 1) := by decide +kernel
theorem dX5_price_21 : decode cX5_price 21 = .ok (.ireturn, 1) := by decide +kernel
theorem dX5_about_0 : decode cX5_about 0 = .ok (.aload_n 0, 1) := by decide +kernel
theorem dX5_about_1 : decode cX5_about 1 = .ok (.getfield 10, 3) := by decide +kernel
theorem dX5_about_4 : decode cX5_about 4 = .ok (.iload_n 1, 1) := by decide +kernel
theorem dX5_about_5 : decode cX5_about 5 = .ok (.invokevirtual 106, 3) := by decide +kernel
theorem dX5_about_8 : decode cX5_about 8 = .ok (.ifCond .ne 6, 3) := by decide +kernel
theorem dX5_about_11 : decode cX5_about 11 = .ok (.bipush (-2), 2) := by decide +kernel
theorem dX5_about_13 : decode cX5_about 13 = .ok (.ireturn, 1) := by decide +kernel
theorem dX5_about_14 : decode cX5_about 14 = .ok (.aload_n 0, 1) := by decide +kernel
theorem dX5_about_15 : decode cX5_about 15 = .ok (.getfield 21, 3) := by decide +kernel
theorem dX5_about_18 : decode cX5_about 18 = .ok (.getfield 115, 3) := by decide +kernel
theorem dX5_about_21 : decode cX5_about 21 = .ok (.iload_n 1, 1) := by decide +kernel
theorem dX5_about_22 : decode cX5_about 22 = .ok (.iaload, 1) := by decide +kernel
theorem dX5_about_23 : decode cX5_about 23 = .ok (.iconst (-1), 1) := by decide +kernel
theorem dX5_about_24 : decode cX5_about 24 = .ok (.if_icmp .ne 7, 3) := by decide +kernel
theorem dX5_about_27 : decode cX5_about 27 = .ok (.iconst 1, 1) := by decide +kernel
theorem dX5_about_28 : decode cX5_about 28 = .ok (.goto 4, 3) := by decide +kernel
theorem dX5_about_31 : decode cX5_about 31 = .ok (.iconst 0, 1) := by decide +kernel
theorem dX5_about_32 : decode cX5_about 32 = .ok (.istore_n 3, 1) := by decide +kernel
theorem dX5_about_33 : decode cX5_about 33 = .ok (.iload_n 2, 1) := by decide +kernel
theorem dX5_about_34 : decode cX5_about 34 = .ok (.tableswitch 106 0 5 #[38, 48, 58, 68, 78, 96], 38) := by decide +kernel
theorem dX5_about_72 : decode cX5_about 72 = .ok (.aload_n 0, 1) := by decide +kernel
theorem dX5_about_73 : decode cX5_about 73 = .ok (.getfield 21, 3) := by decide +kernel
theorem dX5_about_76 : decode cX5_about 76 = .ok (.getfield 115, 3) := by decide +kernel
theorem dX5_about_79 : decode cX5_about 79 = .ok (.iload_n 1, 1) := by decide +kernel
theorem dX5_about_80 : decode cX5_about 80 = .ok (.iaload, 1) := by decide +kernel
theorem dX5_about_81 : decode cX5_about 81 = .ok (.ireturn, 1) := by decide +kernel
theorem dX5_about_82 : decode cX5_about 82 = .ok (.aload_n 0, 1) := by decide +kernel
theorem dX5_about_83 : decode cX5_about 83 = .ok (.getfield 10, 3) := by decide +kernel
theorem dX5_about_86 : decode cX5_about 86 = .ok (.getfield 124, 3) := by decide +kernel
theorem dX5_about_89 : decode cX5_about 89 = .ok (.iload_n 1, 1) := by decide +kernel
theorem dX5_about_90 : decode cX5_about 90 = .ok (.iaload, 1) := by decide +kernel
theorem dX5_about_91 : decode cX5_about 91 = .ok (.ireturn, 1) := by decide +kernel
theorem dX5_about_92 : decode cX5_about 92 = .ok (.aload_n 0, 1) := by decide +kernel
theorem dX5_about_93 : decode cX5_about 93 = .ok (.getfield 10, 3) := by decide +kernel
theorem dX5_about_96 : decode cX5_about 96 = .ok (.getfield 127, 3) := by decide +kernel
theorem dX5_about_99 : decode cX5_about 99 = .ok (.iload_n 1, 1) := by decide +kernel
theorem dX5_about_100 : decode cX5_about 100 = .ok (.iaload, 1) := by decide +kernel
theorem dX5_about_101 : decode cX5_about 101 = .ok (.ireturn, 1) := by decide +kernel
theorem dX5_about_102 : decode cX5_about 102 = .ok (.aload_n 0, 1) := by decide +kernel
theorem dX5_about_103 : decode cX5_about 103 = .ok (.getfield 10, 3) := by decide +kernel
theorem dX5_about_106 : decode cX5_about 106 = .ok (.getfield 112, 3) := by decide +kernel
theorem dX5_about_109 : decode cX5_about 109 = .ok (.iload_n 1, 1) := by decide +kernel
theorem dX5_about_110 : decode cX5_about 110 = .ok (.iaload, 1) := by decide +kernel
theorem dX5_about_111 : decode cX5_about 111 = .ok (.ireturn, 1) := by decide +kernel
theorem dX5_about_112 : decode cX5_about 112 = .ok (.iload_n 3, 1) := by decide +kernel
theorem dX5_about_113 : decode cX5_about 113 = .ok (.ifCond .eq 7, 3) := by decide +kernel
theorem dX5_about_116 : decode cX5_about 116 = .ok (.iconst (-1), 1) := by decide +kernel
theorem dX5_about_117 : decode cX5_about 117 = .ok (.goto 12, 3) := by decide +kernel
theorem dX5_about_120 : decode cX5_about 120 = .ok (.aload_n 0, 1) := by decide +kernel
theorem dX5_about_121 : decode cX5_about 121 = .ok (.getfield 10, 3) := by decide +kernel
theorem dX5_about_124 : decode cX5_about 124 = .ok (.getfield 130, 3) := by decide +kernel
theorem dX5_about_127 : decode cX5_about 127 = .ok (.iload_n 1, 1) := by decide +kernel
theorem dX5_about_128 : decode cX5_about 128 = .ok (.iaload, 1) := by decide +kernel
theorem dX5_about_129 : decode cX5_about 129 = .ok (.ireturn, 1) := by decide +kernel
theorem dX5_about_130 : decode cX5_about 130 = .ok (.iload_n 3, 1) := by decide +kernel
theorem dX5_about_131 : decode cX5_about 131 = .ok (.ifCond .eq 7, 3) := by decide +kernel
theorem dX5_about_134 : decode cX5_about 134 = .ok (.iconst 1, 1) := by decide +kernel
theorem dX5_about_135 : decode cX5_about 135 = .ok (.goto 4, 3) := by decide +kernel
theorem dX5_about_138 : decode cX5_about 138 = .ok (.iconst 0, 1) := by decide +kernel
theorem dX5_about_139 : decode cX5_about 139 = .ok (.ireturn, 1) := by decide +kernel
theorem dX5_about_140 : decode cX5_about 140 = .ok (.bipush (-2), 2) := by decide +kernel
theorem dX5_about_142 : decode cX5_about 142 = .ok (.ireturn, 1) := by decide +kernel
theorem dX5_free_0 : decode cX5_free 0 = .ok (.aload_n 0, 1) := by decide +kernel
theorem dX5_free_1 : decode cX5_free 1 = .ok (.getfield 10, 3) := by decide +kernel
theorem dX5_free_4 : decode cX5_free 4 = .ok (.iload_n 1, 1) := by decide +kernel
theorem dX5_free_5 : decode cX5_free 5 = .ok (.invokevirtual 86, 3) := by decide +kernel
theorem dX5_free_8 : decode cX5_free 8 = .ok (.ifCond .ne 6, 3) := by decide +kernel
theorem dX5_free_11 : decode cX5_free 11 = .ok (.bipush (-2), 2) := by decide +kernel
theorem dX5_free_13 : decode cX5_free 13 = .ok (.ireturn, 1) := by decide +kernel
theorem dX5_free_14 : decode cX5_free 14 = .ok (.iload_n 2, 1) := by decide +kernel
theorem dX5_free_15 : decode cX5_free 15 = .ok (.tableswitch 53 0 2 #[25, 34, 43], 25) := by decide +kernel
theorem dX5_free_40 : decode cX5_free 40 = .ok (.aload_n 0, 1) := by decide +kernel
theorem dX5_free_41 : decode cX5_free 41 = .ok (.getfield 21, 3) := by decide +kernel
theorem dX5_free_44 : decode cX5_free 44 = .ok (.iload_n 1, 1) := by decide +kernel
theorem dX5_free_45 : decode cX5_free 45 = .ok (.invokevirtual 133, 3) := by decide +kernel
theorem dX5_free_48 : decode cX5_free 48 = .ok (.ireturn, 1) := by decide +kernel
theorem dX5_free_49 : decode cX5_free 49 = .ok (.aload_n 0, 1) := by decide +kernel
theorem dX5_free_50 : decode cX5_free 50 = .ok (.getfield 21, 3) := by decide +kernel
theorem dX5_free_53 : decode cX5_free 53 = .ok (.iload_n 1, 1) := by decide +kernel
theorem dX5_free_54 : decode cX5_free 54 = .ok (.invokevirtual 137, 3) := by decide +kernel
theorem dX5_free_57 : decode cX5_free 57 = .ok (.ireturn, 1) := by decide +kernel
theorem dX5_free_58 : decode cX5_free 58 = .ok (.aload_n 0, 1) := by decide +kernel
theorem dX5_free_59 : decode cX5_free 59 = .ok (.getfield 21, 3) := by decide +kernel
theorem dX5_free_62 : decode cX5_free 62 = .ok (.getfield 140, 3) := by decide +kernel
theorem dX5_free_65 : decode cX5_free 65 = .ok (.iload_n 1, 1) := by decide +kernel
theorem dX5_free_66 : decode cX5_free 66 = .ok (.iaload, 1) := by decide +kernel
theorem dX5_free_67 : decode cX5_free 67 = .ok (.ireturn, 1) := by decide +kernel
theorem dX5_free_68 : decode cX5_free 68 = .ok (.bipush (-2), 2) := by decide +kernel
theorem dX5_free_70 : decode cX5_free 70 = .ok (.ireturn, 1) := by decide +kernel
theorem dX5_fewest_0 : decode cX5_fewest 0 = .ok (.aload_n 0, 1) := by decide +kernel
theorem dX5_fewest_1 : decode cX5_fewest 1 = .ok (.getfield 30, 3) := by decide +kernel
theorem dX5_fewest_4 : decode cX5_fewest 4 = .ok (.iconst 3, 1) := by decide +kernel
theorem dX5_fewest_5 : decode cX5_fewest 5 = .ok (.iconst (-1), 1) := by decide +kernel
theorem dX5_fewest_6 : decode cX5_fewest 6 = .ok (.iconst 0, 1) := by decide +kernel
theorem dX5_fewest_7 : decode cX5_fewest 7 = .ok (.iconst 0, 1) := by decide +kernel
theorem dX5_fewest_8 : decode cX5_fewest 8 = .ok (.invokevirtual 143, 3) := by decide +kernel
theorem dX5_fewest_11 : decode cX5_fewest 11 = .ok (.aload_n 0, 1) := by decide +kernel
theorem dX5_fewest_12 : decode cX5_fewest 12 = .ok (.getfield 30, 3) := by decide +kernel
theorem dX5_fewest_15 : decode cX5_fewest 15 = .ok (.aload_n 0, 1) := by decide +kernel
theorem dX5_fewest_16 : decode cX5_fewest 16 = .ok (.getfield 62, 3) := by decide +kernel
theorem dX5_fewest_19 : decode cX5_fewest 19 = .ok (.invokevirtual 147, 3) := by decide +kernel
theorem dX5_fewest_22 : decode cX5_fewest 22 = .ok (.aload_n 0, 1) := by decide +kernel
theorem dX5_fewest_23 : decode cX5_fewest 23 = .ok (.aload_n 0, 1) := by decide +kernel
theorem dX5_fewest_24 : decode cX5_fewest 24 = .ok (.getfield 30, 3) := by decide +kernel
theorem dX5_fewest_27 : decode cX5_fewest 27 = .ok (.getfield 151, 3) := by decide +kernel
theorem dX5_fewest_30 : decode cX5_fewest 30 = .ok (.putfield 65, 3) := by decide +kernel
theorem dX5_fewest_33 : decode cX5_fewest 33 = .ok (.aload_n 0, 1) := by decide +kernel
theorem dX5_fewest_34 : decode cX5_fewest 34 = .ok (.getfield 30, 3) := by decide +kernel
theorem dX5_fewest_37 : decode cX5_fewest 37 = .ok (.getfield 154, 3) := by decide +kernel
theorem dX5_fewest_40 : decode cX5_fewest 40 = .ok (.ifCond .eq 8, 3) := by decide +kernel
theorem dX5_fewest_43 : decode cX5_fewest 43 = .ok (.bipush (-5), 2) := by decide +kernel
theorem dX5_fewest_45 : decode cX5_fewest 45 = .ok (.goto 10, 3) := by decide +kernel
theorem dX5_fewest_48 : decode cX5_fewest 48 = .ok (.aload_n 0, 1) := by decide +kernel
theorem dX5_fewest_49 : decode cX5_fewest 49 = .ok (.getfield 30, 3) := by decide +kernel
theorem dX5_fewest_52 : decode cX5_fewest 52 = .ok (.getfield 157, 3) := by decide +kernel
theorem dX5_fewest_55 : decode cX5_fewest 55 = .ok (.ireturn, 1) := by decide +kernel
theorem dX5_plan_0 : decode cX5_plan 0 = .ok (.aload_n 0, 1) := by decide +kernel
theorem dX5_plan_1 : decode cX5_plan 1 = .ok (.iconst 0, 1) := by decide +kernel
theorem dX5_plan_2 : decode cX5_plan 2 = .ok (.putfield 54, 3) := by decide +kernel
theorem dX5_plan_5 : decode cX5_plan 5 = .ok (.aload_n 0, 1) := by decide +kernel
theorem dX5_plan_6 : decode cX5_plan 6 = .ok (.iload_n 1, 1) := by decide +kernel
theorem dX5_plan_7 : decode cX5_plan 7 = .ok (.iload_n 2, 1) := by decide +kernel
theorem dX5_plan_8 : decode cX5_plan 8 = .ok (.iload_n 3, 1) := by decide +kernel
theorem dX5_plan_9 : decode cX5_plan 9 = .ok (.iload 4, 2) := by decide +kernel
theorem dX5_plan_11 : decode cX5_plan 11 = .ok (.invokevirtual 160, 3) := by decide +kernel
theorem dX5_plan_14 : decode cX5_plan 14 = .ok (.ifCond .ne 6, 3) := by decide +kernel
theorem dX5_plan_17 : decode cX5_plan 17 = .ok (.bipush (-2), 2) := by decide +kernel
theorem dX5_plan_19 : decode cX5_plan 19 = .ok (.ireturn, 1) := by decide +kernel
theorem dX5_plan_20 : decode cX5_plan 20 = .ok (.aload_n 0, 1) := by decide +kernel
theorem dX5_plan_21 : decode cX5_plan 21 = .ok (.getfield 30, 3) := by decide +kernel
theorem dX5_plan_24 : decode cX5_plan 24 = .ok (.iload_n 1, 1) := by decide +kernel
theorem dX5_plan_25 : decode cX5_plan 25 = .ok (.iload_n 2, 1) := by decide +kernel
theorem dX5_plan_26 : decode cX5_plan 26 = .ok (.iload_n 3, 1) := by decide +kernel
theorem dX5_plan_27 : decode cX5_plan 27 = .ok (.iload 4, 2) := by decide +kernel
theorem dX5_plan_29 : decode cX5_plan 29 = .ok (.invokevirtual 143, 3) := by decide +kernel
theorem dX5_plan_32 : decode cX5_plan 32 = .ok (.aload_n 0, 1) := by decide +kernel
theorem dX5_plan_33 : decode cX5_plan 33 = .ok (.getfield 30, 3) := by decide +kernel
theorem dX5_plan_36 : decode cX5_plan 36 = .ok (.aload_n 0, 1) := by decide +kernel
theorem dX5_plan_37 : decode cX5_plan 37 = .ok (.getfield 62, 3) := by decide +kernel
theorem dX5_plan_40 : decode cX5_plan 40 = .ok (.invokevirtual 147, 3) := by decide +kernel
theorem dX5_plan_43 : decode cX5_plan 43 = .ok (.aload_n 0, 1) := by decide +kernel
theorem dX5_plan_44 : decode cX5_plan 44 = .ok (.aload_n 0, 1) := by decide +kernel
theorem dX5_plan_45 : decode cX5_plan 45 = .ok (.getfield 30, 3) := by decide +kernel
theorem dX5_plan_48 : decode cX5_plan 48 = .ok (.getfield 151, 3) := by decide +kernel
theorem dX5_plan_51 : decode cX5_plan 51 = .ok (.putfield 65, 3) := by decide +kernel
theorem dX5_plan_54 : decode cX5_plan 54 = .ok (.aload_n 0, 1) := by decide +kernel
theorem dX5_plan_55 : decode cX5_plan 55 = .ok (.getfield 30, 3) := by decide +kernel
theorem dX5_plan_58 : decode cX5_plan 58 = .ok (.getfield 154, 3) := by decide +kernel
theorem dX5_plan_61 : decode cX5_plan 61 = .ok (.ifCond .eq 6, 3) := by decide +kernel
theorem dX5_plan_64 : decode cX5_plan 64 = .ok (.bipush (-5), 2) := by decide +kernel
theorem dX5_plan_66 : decode cX5_plan 66 = .ok (.ireturn, 1) := by decide +kernel
theorem dX5_plan_67 : decode cX5_plan 67 = .ok (.aload_n 0, 1) := by decide +kernel
theorem dX5_plan_68 : decode cX5_plan 68 = .ok (.getfield 30, 3) := by decide +kernel
theorem dX5_plan_71 : decode cX5_plan 71 = .ok (.getfield 164, 3) := by decide +kernel
theorem dX5_plan_74 : decode cX5_plan 74 = .ok (.iconst (-1), 1) := by decide +kernel
theorem dX5_plan_75 : decode cX5_plan 75 = .ok (.if_icmp .ne 5, 3) := by decide +kernel
theorem dX5_plan_78 : decode cX5_plan 78 = .ok (.iconst (-1), 1) := by decide +kernel
theorem dX5_plan_79 : decode cX5_plan 79 = .ok (.ireturn, 1) := by decide +kernel
theorem dX5_plan_80 : decode cX5_plan 80 = .ok (.aload_n 0, 1) := by decide +kernel
theorem dX5_plan_81 : decode cX5_plan 81 = .ok (.getfield 30, 3) := by decide +kernel
theorem dX5_plan_84 : decode cX5_plan 84 = .ok (.getfield 167, 3) := by decide +kernel
theorem dX5_plan_87 : decode cX5_plan 87 = .ok (.iconst 0, 1) := by decide +kernel
theorem dX5_plan_88 : decode cX5_plan 88 = .ok (.aload_n 0, 1) := by decide +kernel
theorem dX5_plan_89 : decode cX5_plan 89 = .ok (.getfield 50, 3) := by decide +kernel
theorem dX5_plan_92 : decode cX5_plan 92 = .ok (.iconst 0, 1) := by decide +kernel
theorem dX5_plan_93 : decode cX5_plan 93 = .ok (.bipush 8, 2) := by decide +kernel
theorem dX5_plan_95 : decode cX5_plan 95 = .ok (.invokestatic 170, 3) := by decide +kernel
theorem dX5_plan_98 : decode cX5_plan 98 = .ok (.aload_n 0, 1) := by decide +kernel
theorem dX5_plan_99 : decode cX5_plan 99 = .ok (.iconst 1, 1) := by decide +kernel
theorem dX5_plan_100 : decode cX5_plan 100 = .ok (.putfield 54, 3) := by decide +kernel
theorem dX5_plan_103 : decode cX5_plan 103 = .ok (.aload_n 0, 1) := by decide +kernel
theorem dX5_plan_104 : decode cX5_plan 104 = .ok (.getfield 30, 3) := by decide +kernel
theorem dX5_plan_107 : decode cX5_plan 107 = .ok (.getfield 164, 3) := by decide +kernel
theorem dX5_plan_110 : decode cX5_plan 110 = .ok (.ireturn, 1) := by decide +kernel
theorem dX5_planAt_0 : decode cX5_planAt 0 = .ok (.aload_n 0, 1) := by decide +kernel
theorem dX5_planAt_1 : decode cX5_planAt 1 = .ok (.getfield 10, 3) := by decide +kernel
theorem dX5_planAt_4 : decode cX5_planAt 4 = .ok (.iload_n 1, 1) := by decide +kernel
theorem dX5_planAt_5 : decode cX5_planAt 5 = .ok (.invokevirtual 106, 3) := by decide +kernel
theorem dX5_planAt_8 : decode cX5_planAt 8 = .ok (.ifCond .ne 6, 3) := by decide +kernel
theorem dX5_planAt_11 : decode cX5_planAt 11 = .ok (.bipush (-2), 2) := by decide +kernel
theorem dX5_planAt_13 : decode cX5_planAt 13 = .ok (.ireturn, 1) := by decide +kernel
theorem dX5_planAt_14 : decode cX5_planAt 14 = .ok (.aload_n 0, 1) := by decide +kernel
theorem dX5_planAt_15 : decode cX5_planAt 15 = .ok (.getfield 54, 3) := by decide +kernel
theorem dX5_planAt_18 : decode cX5_planAt 18 = .ok (.ifCond .eq 12, 3) := by decide +kernel
theorem dX5_planAt_21 : decode cX5_planAt 21 = .ok (.aload_n 0, 1) := by decide +kernel
theorem dX5_planAt_22 : decode cX5_planAt 22 = .ok (.getfield 50, 3) := by decide +kernel
theorem dX5_planAt_25 : decode cX5_planAt 25 = .ok (.iload_n 1, 1) := by decide +kernel
theorem dX5_planAt_26 : decode cX5_planAt 26 = .ok (.iaload, 1) := by decide +kernel
theorem dX5_planAt_27 : decode cX5_planAt 27 = .ok (.goto 5, 3) := by decide +kernel
theorem dX5_planAt_30 : decode cX5_planAt 30 = .ok (.bipush (-3), 2) := by decide +kernel
theorem dX5_planAt_32 : decode cX5_planAt 32 = .ok (.ireturn, 1) := by decide +kernel
theorem dX5_tries_0 : decode cX5_tries 0 = .ok (.aload_n 0, 1) := by decide +kernel
theorem dX5_tries_1 : decode cX5_tries 1 = .ok (.getfield 65, 3) := by decide +kernel
theorem dX5_tries_4 : decode cX5_tries 4 = .ok (.ireturn, 1) := by decide +kernel
theorem dX5_cost_0 : decode cX5_cost 0 = .ok (.aload_n 0, 1) := by decide +kernel
theorem dX5_cost_1 : decode cX5_cost 1 = .ok (.getfield 54, 3) := by decide +kernel
theorem dX5_cost_4 : decode cX5_cost 4 = .ok (.ifCond .eq 17, 3) := by decide +kernel
theorem dX5_cost_7 : decode cX5_cost 7 = .ok (.aload_n 0, 1) := by decide +kernel
theorem dX5_cost_8 : decode cX5_cost 8 = .ok (.getfield 21, 3) := by decide +kernel
theorem dX5_cost_11 : decode cX5_cost 11 = .ok (.aload_n 0, 1) := by decide +kernel
theorem dX5_cost_12 : decode cX5_cost 12 = .ok (.getfield 50, 3) := by decide +kernel
theorem dX5_cost_15 : decode cX5_cost 15 = .ok (.invokevirtual 176, 3) := by decide +kernel
theorem dX5_cost_18 : decode cX5_cost 18 = .ok (.goto 5, 3) := by decide +kernel
theorem dX5_cost_21 : decode cX5_cost 21 = .ok (.bipush (-3), 2) := by decide +kernel
theorem dX5_cost_23 : decode cX5_cost 23 = .ok (.ireturn, 1) := by decide +kernel
theorem dX5_order_0 : decode cX5_order 0 = .ok (.aload_n 0, 1) := by decide +kernel
theorem dX5_order_1 : decode cX5_order 1 = .ok (.getfield 54, 3) := by decide +kernel
theorem dX5_order_4 : decode cX5_order 4 = .ok (.ifCond .ne 6, 3) := by decide +kernel
theorem dX5_order_7 : decode cX5_order 7 = .ok (.bipush (-3), 2) := by decide +kernel
theorem dX5_order_9 : decode cX5_order 9 = .ok (.ireturn, 1) := by decide +kernel
theorem dX5_order_10 : decode cX5_order 10 = .ok (.aload_n 0, 1) := by decide +kernel
theorem dX5_order_11 : decode cX5_order 11 = .ok (.getfield 37, 3) := by decide +kernel
theorem dX5_order_14 : decode cX5_order 14 = .ok (.aload_n 0, 1) := by decide +kernel
theorem dX5_order_15 : decode cX5_order 15 = .ok (.getfield 50, 3) := by decide +kernel
theorem dX5_order_18 : decode cX5_order 18 = .ok (.invokevirtual 180, 3) := by decide +kernel
theorem dX5_order_21 : decode cX5_order 21 = .ok (.ifCond .eq 7, 3) := by decide +kernel
theorem dX5_order_24 : decode cX5_order 24 = .ok (.iconst 1, 1) := by decide +kernel
theorem dX5_order_25 : decode cX5_order 25 = .ok (.goto 4, 3) := by decide +kernel
theorem dX5_order_28 : decode cX5_order 28 = .ok (.iconst 0, 1) := by decide +kernel
theorem dX5_order_29 : decode cX5_order 29 = .ok (.ireturn, 1) := by decide +kernel
theorem dX5_orderAt_0 : decode cX5_orderAt 0 = .ok (.aload_n 0, 1) := by decide +kernel
theorem dX5_orderAt_1 : decode cX5_orderAt 1 = .ok (.getfield 54, 3) := by decide +kernel
theorem dX5_orderAt_4 : decode cX5_orderAt 4 = .ok (.ifCond .ne 6, 3) := by decide +kernel
theorem dX5_orderAt_7 : decode cX5_orderAt 7 = .ok (.bipush (-3), 2) := by decide +kernel
theorem dX5_orderAt_9 : decode cX5_orderAt 9 = .ok (.ireturn, 1) := by decide +kernel
theorem dX5_orderAt_10 : decode cX5_orderAt 10 = .ok (.aload_n 0, 1) := by decide +kernel
theorem dX5_orderAt_11 : decode cX5_orderAt 11 = .ok (.getfield 37, 3) := by decide +kernel
theorem dX5_orderAt_14 : decode cX5_orderAt 14 = .ok (.aload_n 0, 1) := by decide +kernel
theorem dX5_orderAt_15 : decode cX5_orderAt 15 = .ok (.getfield 50, 3) := by decide +kernel
theorem dX5_orderAt_18 : decode cX5_orderAt 18 = .ok (.invokevirtual 180, 3) := by decide +kernel
theorem dX5_orderAt_21 : decode cX5_orderAt 21 = .ok (.ifCond .eq 18, 3) := by decide +kernel
theorem dX5_orderAt_24 : decode cX5_orderAt 24 = .ok (.iload_n 1, 1) := by decide +kernel
theorem dX5_orderAt_25 : decode cX5_orderAt 25 = .ok (.ifCond .lt 14, 3) := by decide +kernel
theorem dX5_orderAt_28 : decode cX5_orderAt 28 = .ok (.iload_n 1, 1) := by decide +kernel
theorem dX5_orderAt_29 : decode cX5_orderAt 29 = .ok (.aload_n 0, 1) := by decide +kernel
theorem dX5_orderAt_30 : decode cX5_orderAt 30 = .ok (.getfield 37, 3) := by decide +kernel
theorem dX5_orderAt_33 : decode cX5_orderAt 33 = .ok (.getfield 184, 3) := by decide +kernel
theorem dX5_orderAt_36 : decode cX5_orderAt 36 = .ok (.if_icmp .lt 5, 3) := by decide +kernel
theorem dX5_orderAt_39 : decode cX5_orderAt 39 = .ok (.iconst (-1), 1) := by decide +kernel
theorem dX5_orderAt_40 : decode cX5_orderAt 40 = .ok (.ireturn, 1) := by decide +kernel
theorem dX5_orderAt_41 : decode cX5_orderAt 41 = .ok (.aload_n 0, 1) := by decide +kernel
theorem dX5_orderAt_42 : decode cX5_orderAt 42 = .ok (.getfield 37, 3) := by decide +kernel
theorem dX5_orderAt_45 : decode cX5_orderAt 45 = .ok (.getfield 187, 3) := by decide +kernel
theorem dX5_orderAt_48 : decode cX5_orderAt 48 = .ok (.iload_n 1, 1) := by decide +kernel
theorem dX5_orderAt_49 : decode cX5_orderAt 49 = .ok (.iaload, 1) := by decide +kernel
theorem dX5_orderAt_50 : decode cX5_orderAt 50 = .ok (.ireturn, 1) := by decide +kernel
theorem dX5_third_0 : decode cX5_third 0 = .ok (.aload_n 0, 1) := by decide +kernel
theorem dX5_third_1 : decode cX5_third 1 = .ok (.invokevirtual 190, 3) := by decide +kernel
theorem dX5_third_4 : decode cX5_third 4 = .ok (.ifCond .eq 17, 3) := by decide +kernel
theorem dX5_third_7 : decode cX5_third 7 = .ok (.aload_n 0, 1) := by decide +kernel
theorem dX5_third_8 : decode cX5_third 8 = .ok (.getfield 37, 3) := by decide +kernel
theorem dX5_third_11 : decode cX5_third 11 = .ok (.aload_n 0, 1) := by decide +kernel
theorem dX5_third_12 : decode cX5_third 12 = .ok (.getfield 50, 3) := by decide +kernel
theorem dX5_third_15 : decode cX5_third 15 = .ok (.invokevirtual 194, 3) := by decide +kernel
theorem dX5_third_18 : decode cX5_third 18 = .ok (.goto 5, 3) := by decide +kernel
theorem dX5_third_21 : decode cX5_third 21 = .ok (.bipush (-3), 2) := by decide +kernel
theorem dX5_third_23 : decode cX5_third 23 = .ok (.ireturn, 1) := by decide +kernel
theorem dX5_byStop_0 : decode cX5_byStop 0 = .ok (.aload_n 0, 1) := by decide +kernel
theorem dX5_byStop_1 : decode cX5_byStop 1 = .ok (.invokevirtual 190, 3) := by decide +kernel
theorem dX5_byStop_4 : decode cX5_byStop 4 = .ok (.ifCond .eq 17, 3) := by decide +kernel
theorem dX5_byStop_7 : decode cX5_byStop 7 = .ok (.aload_n 0, 1) := by decide +kernel
theorem dX5_byStop_8 : decode cX5_byStop 8 = .ok (.getfield 37, 3) := by decide +kernel
theorem dX5_byStop_11 : decode cX5_byStop 11 = .ok (.aload_n 0, 1) := by decide +kernel
theorem dX5_byStop_12 : decode cX5_byStop 12 = .ok (.getfield 50, 3) := by decide +kernel
theorem dX5_byStop_15 : decode cX5_byStop 15 = .ok (.invokevirtual 197, 3) := by decide +kernel
theorem dX5_byStop_18 : decode cX5_byStop 18 = .ok (.goto 5, 3) := by decide +kernel
theorem dX5_byStop_21 : decode cX5_byStop 21 = .ok (.bipush (-3), 2) := by decide +kernel
theorem dX5_byStop_23 : decode cX5_byStop 23 = .ok (.ireturn, 1) := by decide +kernel
theorem dX5_step_0 : decode cX5_step 0 = .ok (.aload_n 0, 1) := by decide +kernel
theorem dX5_step_1 : decode cX5_step 1 = .ok (.getfield 54, 3) := by decide +kernel
theorem dX5_step_4 : decode cX5_step 4 = .ok (.ifCond .eq 27, 3) := by decide +kernel
theorem dX5_step_7 : decode cX5_step 7 = .ok (.aload_n 0, 1) := by decide +kernel
theorem dX5_step_8 : decode cX5_step 8 = .ok (.getfield 37, 3) := by decide +kernel
theorem dX5_step_11 : decode cX5_step 11 = .ok (.aload_n 0, 1) := by decide +kernel
theorem dX5_step_12 : decode cX5_step 12 = .ok (.getfield 50, 3) := by decide +kernel
theorem dX5_step_15 : decode cX5_step 15 = .ok (.invokevirtual 180, 3) := by decide +kernel
theorem dX5_step_18 : decode cX5_step 18 = .ok (.ifCond .eq 13, 3) := by decide +kernel
theorem dX5_step_21 : decode cX5_step 21 = .ok (.aload_n 0, 1) := by decide +kernel
theorem dX5_step_22 : decode cX5_step 22 = .ok (.getfield 37, 3) := by decide +kernel
theorem dX5_step_25 : decode cX5_step 25 = .ok (.getfield 184, 3) := by decide +kernel
theorem dX5_step_28 : decode cX5_step 28 = .ok (.ifCond .ne 6, 3) := by decide +kernel
theorem dX5_step_31 : decode cX5_step 31 = .ok (.bipush (-3), 2) := by decide +kernel
theorem dX5_step_33 : decode cX5_step 33 = .ok (.ireturn, 1) := by decide +kernel
theorem dX5_step_34 : decode cX5_step 34 = .ok (.aload_n 0, 1) := by decide +kernel
theorem dX5_step_35 : decode cX5_step 35 = .ok (.getfield 37, 3) := by decide +kernel
theorem dX5_step_38 : decode cX5_step 38 = .ok (.getfield 187, 3) := by decide +kernel
theorem dX5_step_41 : decode cX5_step 41 = .ok (.iconst 0, 1) := by decide +kernel
theorem dX5_step_42 : decode cX5_step 42 = .ok (.iaload, 1) := by decide +kernel
theorem dX5_step_43 : decode cX5_step 43 = .ok (.istore_n 2, 1) := by decide +kernel
theorem dX5_step_44 : decode cX5_step 44 = .ok (.iload_n 1, 1) := by decide +kernel
theorem dX5_step_45 : decode cX5_step 45 = .ok (.ifCond .ne 14, 3) := by decide +kernel
theorem dX5_step_48 : decode cX5_step 48 = .ok (.aload_n 0, 1) := by decide +kernel
theorem dX5_step_49 : decode cX5_step 49 = .ok (.iload_n 2, 1) := by decide +kernel
theorem dX5_step_50 : decode cX5_step 50 = .ok (.aload_n 0, 1) := by decide +kernel
theorem dX5_step_51 : decode cX5_step 51 = .ok (.getfield 50, 3) := by decide +kernel
theorem dX5_step_54 : decode cX5_step 54 = .ok (.iload_n 2, 1) := by decide +kernel
theorem dX5_step_55 : decode cX5_step 55 = .ok (.iaload, 1) := by decide +kernel
theorem dX5_step_56 : decode cX5_step 56 = .ok (.invokevirtual 121, 3) := by decide +kernel
theorem dX5_step_59 : decode cX5_step 59 = .ok (.iload_n 2, 1) := by decide +kernel
theorem dX5_step_60 : decode cX5_step 60 = .ok (.ireturn, 1) := by decide +kernel
theorem dX5_tick_0 : decode cX5_tick 0 = .ok (.iload_n 1, 1) := by decide +kernel
theorem dX5_tick_1 : decode cX5_tick 1 = .ok (.iconst 1, 1) := by decide +kernel
theorem dX5_tick_2 : decode cX5_tick 2 = .ok (.if_icmp .lt 10, 3) := by decide +kernel
theorem dX5_tick_5 : decode cX5_tick 5 = .ok (.iload_n 1, 1) := by decide +kernel
theorem dX5_tick_6 : decode cX5_tick 6 = .ok (.sipush 1000, 3) := by decide +kernel
theorem dX5_tick_9 : decode cX5_tick 9 = .ok (.if_icmp .le 6, 3) := by decide +kernel
theorem dX5_tick_12 : decode cX5_tick 12 = .ok (.bipush (-2), 2) := by decide +kernel
theorem dX5_tick_14 : decode cX5_tick 14 = .ok (.ireturn, 1) := by decide +kernel
theorem dX5_tick_15 : decode cX5_tick 15 = .ok (.aload_n 0, 1) := by decide +kernel
theorem dX5_tick_16 : decode cX5_tick 16 = .ok (.dup, 1) := by decide +kernel
theorem dX5_tick_17 : decode cX5_tick 17 = .ok (.getfield 62, 3) := by decide +kernel
theorem dX5_tick_20 : decode cX5_tick 20 = .ok (.iload_n 1, 1) := by decide +kernel
theorem dX5_tick_21 : decode cX5_tick 21 = .ok (.iadd, 1) := by decide +kernel
theorem dX5_tick_22 : decode cX5_tick 22 = .ok (.putfield 62, 3) := by decide +kernel
theorem dX5_tick_25 : decode cX5_tick 25 = .ok (.iconst 0, 1) := by decide +kernel
theorem dX5_tick_26 : decode cX5_tick 26 = .ok (.istore_n 2, 1) := by decide +kernel
theorem dX5_tick_27 : decode cX5_tick 27 = .ok (.iconst 0, 1) := by decide +kernel
theorem dX5_tick_28 : decode cX5_tick 28 = .ok (.istore_n 3, 1) := by decide +kernel
theorem dX5_tick_29 : decode cX5_tick 29 = .ok (.iload_n 3, 1) := by decide +kernel
theorem dX5_tick_30 : decode cX5_tick 30 = .ok (.aload_n 0, 1) := by decide +kernel
theorem dX5_tick_31 : decode cX5_tick 31 = .ok (.getfield 10, 3) := by decide +kernel
theorem dX5_tick_34 : decode cX5_tick 34 = .ok (.getfield 96, 3) := by decide +kernel
theorem dX5_tick_37 : decode cX5_tick 37 = .ok (.if_icmp .ge 48, 3) := by decide +kernel
theorem dX5_tick_40 : decode cX5_tick 40 = .ok (.aload_n 0, 1) := by decide +kernel
theorem dX5_tick_41 : decode cX5_tick 41 = .ok (.getfield 21, 3) := by decide +kernel
theorem dX5_tick_44 : decode cX5_tick 44 = .ok (.getfield 115, 3) := by decide +kernel
theorem dX5_tick_47 : decode cX5_tick 47 = .ok (.iload_n 3, 1) := by decide +kernel
theorem dX5_tick_48 : decode cX5_tick 48 = .ok (.iaload, 1) := by decide +kernel
theorem dX5_tick_49 : decode cX5_tick 49 = .ok (.iconst (-1), 1) := by decide +kernel
theorem dX5_tick_50 : decode cX5_tick 50 = .ok (.if_icmp .eq 29, 3) := by decide +kernel
theorem dX5_tick_53 : decode cX5_tick 53 = .ok (.aload_n 0, 1) := by decide +kernel
theorem dX5_tick_54 : decode cX5_tick 54 = .ok (.getfield 10, 3) := by decide +kernel
theorem dX5_tick_57 : decode cX5_tick 57 = .ok (.iload_n 3, 1) := by decide +kernel
theorem dX5_tick_58 : decode cX5_tick 58 = .ok (.aload_n 0, 1) := by decide +kernel
theorem dX5_tick_59 : decode cX5_tick 59 = .ok (.getfield 62, 3) := by decide +kernel
theorem dX5_tick_62 : decode cX5_tick 62 = .ok (.invokevirtual 200, 3) := by decide +kernel
theorem dX5_tick_65 : decode cX5_tick 65 = .ok (.ifCond .eq 14, 3) := by decide +kernel
theorem dX5_tick_68 : decode cX5_tick 68 = .ok (.aload_n 0, 1) := by decide +kernel
theorem dX5_tick_69 : decode cX5_tick 69 = .ok (.getfield 21, 3) := by decide +kernel
theorem dX5_tick_72 : decode cX5_tick 72 = .ok (.iload_n 3, 1) := by decide +kernel
theorem dX5_tick_73 : decode cX5_tick 73 = .ok (.invokevirtual 203, 3) := by decide +kernel
theorem dX5_tick_76 : decode cX5_tick 76 = .ok (.iinc 2 1, 3) := by decide +kernel
theorem dX5_tick_79 : decode cX5_tick 79 = .ok (.iinc 3 1, 3) := by decide +kernel
theorem dX5_tick_82 : decode cX5_tick 82 = .ok (.goto (-53), 3) := by decide +kernel
theorem dX5_tick_85 : decode cX5_tick 85 = .ok (.iload_n 2, 1) := by decide +kernel
theorem dX5_tick_86 : decode cX5_tick 86 = .ok (.ifCond .le 8, 3) := by decide +kernel
theorem dX5_tick_89 : decode cX5_tick 89 = .ok (.aload_n 0, 1) := by decide +kernel
theorem dX5_tick_90 : decode cX5_tick 90 = .ok (.iconst 0, 1) := by decide +kernel
theorem dX5_tick_91 : decode cX5_tick 91 = .ok (.putfield 54, 3) := by decide +kernel
theorem dX5_tick_94 : decode cX5_tick 94 = .ok (.iload_n 2, 1) := by decide +kernel
theorem dX5_tick_95 : decode cX5_tick 95 = .ok (.ireturn, 1) := by decide +kernel
theorem dX5_wait_0 : decode cX5_wait 0 = .ok (.aload_n 0, 1) := by decide +kernel
theorem dX5_wait_1 : decode cX5_wait 1 = .ok (.getfield 10, 3) := by decide +kernel
theorem dX5_wait_4 : decode cX5_wait 4 = .ok (.iload_n 1, 1) := by decide +kernel
theorem dX5_wait_5 : decode cX5_wait 5 = .ok (.invokevirtual 86, 3) := by decide +kernel
theorem dX5_wait_8 : decode cX5_wait 8 = .ok (.ifCond .ne 6, 3) := by decide +kernel
theorem dX5_wait_11 : decode cX5_wait 11 = .ok (.bipush (-2), 2) := by decide +kernel
theorem dX5_wait_13 : decode cX5_wait 13 = .ok (.ireturn, 1) := by decide +kernel
theorem dX5_wait_14 : decode cX5_wait 14 = .ok (.aload_n 0, 1) := by decide +kernel
theorem dX5_wait_15 : decode cX5_wait 15 = .ok (.getfield 21, 3) := by decide +kernel
theorem dX5_wait_18 : decode cX5_wait 18 = .ok (.getfield 140, 3) := by decide +kernel
theorem dX5_wait_21 : decode cX5_wait 21 = .ok (.iload_n 1, 1) := by decide +kernel
theorem dX5_wait_22 : decode cX5_wait 22 = .ok (.iaload, 1) := by decide +kernel
theorem dX5_wait_23 : decode cX5_wait 23 = .ok (.ifCond .ne 6, 3) := by decide +kernel
theorem dX5_wait_26 : decode cX5_wait 26 = .ok (.bipush (-3), 2) := by decide +kernel
theorem dX5_wait_28 : decode cX5_wait 28 = .ok (.ireturn, 1) := by decide +kernel
theorem dX5_wait_29 : decode cX5_wait 29 = .ok (.aload_n 0, 1) := by decide +kernel
theorem dX5_wait_30 : decode cX5_wait 30 = .ok (.getfield 46, 3) := by decide +kernel
theorem dX5_wait_33 : decode cX5_wait 33 = .ok (.iload_n 1, 1) := by decide +kernel
theorem dX5_wait_34 : decode cX5_wait 34 = .ok (.aload_n 0, 1) := by decide +kernel
theorem dX5_wait_35 : decode cX5_wait 35 = .ok (.getfield 62, 3) := by decide +kernel
theorem dX5_wait_38 : decode cX5_wait 38 = .ok (.aload_n 0, 1) := by decide +kernel
theorem dX5_wait_39 : decode cX5_wait 39 = .ok (.getfield 58, 3) := by decide +kernel
theorem dX5_wait_42 : decode cX5_wait 42 = .ok (.invokevirtual 206, 3) := by decide +kernel
theorem dX5_wait_45 : decode cX5_wait 45 = .ok (.ireturn, 1) := by decide +kernel
theorem dX5_count_0 : decode cX5_count 0 = .ok (.iload_n 1, 1) := by decide +kernel
theorem dX5_count_1 : decode cX5_count 1 = .ok (.tableswitch 98 0 6 #[43, 51, 59, 75, 80, 85, 93], 43) := by decide +kernel
theorem dX5_count_44 : decode cX5_count 44 = .ok (.aload_n 0, 1) := by decide +kernel
theorem dX5_count_45 : decode cX5_count 45 = .ok (.getfield 10, 3) := by decide +kernel
theorem dX5_count_48 : decode cX5_count 48 = .ok (.getfield 75, 3) := by decide +kernel
theorem dX5_count_51 : decode cX5_count 51 = .ok (.ireturn, 1) := by decide +kernel
theorem dX5_count_52 : decode cX5_count 52 = .ok (.aload_n 0, 1) := by decide +kernel
theorem dX5_count_53 : decode cX5_count 53 = .ok (.getfield 10, 3) := by decide +kernel
theorem dX5_count_56 : decode cX5_count 56 = .ok (.getfield 96, 3) := by decide +kernel
theorem dX5_count_59 : decode cX5_count 59 = .ok (.ireturn, 1) := by decide +kernel
theorem dX5_count_60 : decode cX5_count 60 = .ok (.aload_n 0, 1) := by decide +kernel
theorem dX5_count_61 : decode cX5_count 61 = .ok (.getfield 10, 3) := by decide +kernel
theorem dX5_count_64 : decode cX5_count 64 = .ok (.getfield 96, 3) := by decide +kernel
theorem dX5_count_67 : decode cX5_count 67 = .ok (.aload_n 0, 1) := by decide +kernel
theorem dX5_count_68 : decode cX5_count 68 = .ok (.getfield 21, 3) := by decide +kernel
theorem dX5_count_71 : decode cX5_count 71 = .ok (.invokevirtual 210, 3) := by decide +kernel
theorem dX5_count_74 : decode cX5_count 74 = .ok (.isub, 1) := by decide +kernel
theorem dX5_count_75 : decode cX5_count 75 = .ok (.ireturn, 1) := by decide +kernel
theorem dX5_count_76 : decode cX5_count 76 = .ok (.aload_n 0, 1) := by decide +kernel
theorem dX5_count_77 : decode cX5_count 77 = .ok (.getfield 62, 3) := by decide +kernel
theorem dX5_count_80 : decode cX5_count 80 = .ok (.ireturn, 1) := by decide +kernel
theorem dX5_count_81 : decode cX5_count 81 = .ok (.aload_n 0, 1) := by decide +kernel
theorem dX5_count_82 : decode cX5_count 82 = .ok (.getfield 58, 3) := by decide +kernel
theorem dX5_count_85 : decode cX5_count 85 = .ok (.ireturn, 1) := by decide +kernel
theorem dX5_count_86 : decode cX5_count 86 = .ok (.aload_n 0, 1) := by decide +kernel
theorem dX5_count_87 : decode cX5_count 87 = .ok (.getfield 21, 3) := by decide +kernel
theorem dX5_count_90 : decode cX5_count 90 = .ok (.getfield 214, 3) := by decide +kernel
theorem dX5_count_93 : decode cX5_count 93 = .ok (.ireturn, 1) := by decide +kernel
theorem dX5_count_94 : decode cX5_count 94 = .ok (.aload_n 0, 1) := by decide +kernel
theorem dX5_count_95 : decode cX5_count 95 = .ok (.getfield 68, 3) := by decide +kernel
theorem dX5_count_98 : decode cX5_count 98 = .ok (.ireturn, 1) := by decide +kernel
theorem dX5_count_99 : decode cX5_count 99 = .ok (.bipush (-2), 2) := by decide +kernel
theorem dX5_count_101 : decode cX5_count 101 = .ok (.ireturn, 1) := by decide +kernel
theorem dX5_digest_0 : decode cX5_digest 0 = .ok (.ldc2_w 217, 3) := by decide +kernel
theorem dX5_digest_3 : decode cX5_digest 3 = .ok (.lstore_n 1, 1) := by decide +kernel
theorem dX5_digest_4 : decode cX5_digest 4 = .ok (.iconst 0, 1) := by decide +kernel
theorem dX5_digest_5 : decode cX5_digest 5 = .ok (.istore_n 3, 1) := by decide +kernel
theorem dX5_digest_6 : decode cX5_digest 6 = .ok (.iload_n 3, 1) := by decide +kernel
theorem dX5_digest_7 : decode cX5_digest 7 = .ok (.bipush 6, 2) := by decide +kernel
theorem dX5_digest_9 : decode cX5_digest 9 = .ok (.if_icmp .gt 22, 3) := by decide +kernel
theorem dX5_digest_12 : decode cX5_digest 12 = .ok (.ldc2_w 219, 3) := by decide +kernel
theorem dX5_digest_15 : decode cX5_digest 15 = .ok (.lload_n 1, 1) := by decide +kernel
theorem dX5_digest_16 : decode cX5_digest 16 = .ok (.lmul, 1) := by decide +kernel
theorem dX5_digest_17 : decode cX5_digest 17 = .ok (.aload_n 0, 1) := by decide +kernel
theorem dX5_digest_18 : decode cX5_digest 18 = .ok (.iload_n 3, 1) := by decide +kernel
theorem dX5_digest_19 : decode cX5_digest 19 = .ok (.invokevirtual 221, 3) := by decide +kernel
theorem dX5_digest_22 : decode cX5_digest 22 = .ok (.i2l, 1) := by decide +kernel
theorem dX5_digest_23 : decode cX5_digest 23 = .ok (.ladd, 1) := by decide +kernel
theorem dX5_digest_24 : decode cX5_digest 24 = .ok (.lstore_n 1, 1) := by decide +kernel
theorem dX5_digest_25 : decode cX5_digest 25 = .ok (.iinc 3 1, 3) := by decide +kernel
theorem dX5_digest_28 : decode cX5_digest 28 = .ok (.goto (-22), 3) := by decide +kernel
theorem dX5_digest_31 : decode cX5_digest 31 = .ok (.iconst 0, 1) := by decide +kernel
theorem dX5_digest_32 : decode cX5_digest 32 = .ok (.istore_n 3, 1) := by decide +kernel
theorem dX5_digest_33 : decode cX5_digest 33 = .ok (.iload_n 3, 1) := by decide +kernel
theorem dX5_digest_34 : decode cX5_digest 34 = .ok (.aload_n 0, 1) := by decide +kernel
theorem dX5_digest_35 : decode cX5_digest 35 = .ok (.getfield 10, 3) := by decide +kernel
theorem dX5_digest_38 : decode cX5_digest 38 = .ok (.getfield 96, 3) := by decide +kernel
theorem dX5_digest_41 : decode cX5_digest 41 = .ok (.if_icmp .ge 52, 3) := by decide +kernel
theorem dX5_digest_44 : decode cX5_digest 44 = .ok (.iconst 0, 1) := by decide +kernel
theorem dX5_digest_45 : decode cX5_digest 45 = .ok (.istore 4, 2) := by decide +kernel
theorem dX5_digest_47 : decode cX5_digest 47 = .ok (.iload 4, 2) := by decide +kernel
theorem dX5_digest_49 : decode cX5_digest 49 = .ok (.iconst 5, 1) := by decide +kernel
theorem dX5_digest_50 : decode cX5_digest 50 = .ok (.if_icmp .gt 24, 3) := by decide +kernel
theorem dX5_digest_53 : decode cX5_digest 53 = .ok (.ldc2_w 219, 3) := by decide +kernel
theorem dX5_digest_56 : decode cX5_digest 56 = .ok (.lload_n 1, 1) := by decide +kernel
theorem dX5_digest_57 : decode cX5_digest 57 = .ok (.lmul, 1) := by decide +kernel
theorem dX5_digest_58 : decode cX5_digest 58 = .ok (.aload_n 0, 1) := by decide +kernel
theorem dX5_digest_59 : decode cX5_digest 59 = .ok (.iload_n 3, 1) := by decide +kernel
theorem dX5_digest_60 : decode cX5_digest 60 = .ok (.iload 4, 2) := by decide +kernel
theorem dX5_digest_62 : decode cX5_digest 62 = .ok (.invokevirtual 224, 3) := by decide +kernel
theorem dX5_digest_65 : decode cX5_digest 65 = .ok (.i2l, 1) := by decide +kernel
theorem dX5_digest_66 : decode cX5_digest 66 = .ok (.ladd, 1) := by decide +kernel
theorem dX5_digest_67 : decode cX5_digest 67 = .ok (.lstore_n 1, 1) := by decide +kernel
theorem dX5_digest_68 : decode cX5_digest 68 = .ok (.iinc 4 1, 3) := by decide +kernel
theorem dX5_digest_71 : decode cX5_digest 71 = .ok (.goto (-24), 3) := by decide +kernel
theorem dX5_digest_74 : decode cX5_digest 74 = .ok (.ldc2_w 219, 3) := by decide +kernel
theorem dX5_digest_77 : decode cX5_digest 77 = .ok (.lload_n 1, 1) := by decide +kernel
theorem dX5_digest_78 : decode cX5_digest 78 = .ok (.lmul, 1) := by decide +kernel
theorem dX5_digest_79 : decode cX5_digest 79 = .ok (.aload_n 0, 1) := by decide +kernel
theorem dX5_digest_80 : decode cX5_digest 80 = .ok (.iload_n 3, 1) := by decide +kernel
theorem dX5_digest_81 : decode cX5_digest 81 = .ok (.invokevirtual 227, 3) := by decide +kernel
theorem dX5_digest_84 : decode cX5_digest 84 = .ok (.i2l, 1) := by decide +kernel
theorem dX5_digest_85 : decode cX5_digest 85 = .ok (.ladd, 1) := by decide +kernel
theorem dX5_digest_86 : decode cX5_digest 86 = .ok (.lstore_n 1, 1) := by decide +kernel
theorem dX5_digest_87 : decode cX5_digest 87 = .ok (.iinc 3 1, 3) := by decide +kernel
theorem dX5_digest_90 : decode cX5_digest 90 = .ok (.goto (-57), 3) := by decide +kernel
theorem dX5_digest_93 : decode cX5_digest 93 = .ok (.iconst 0, 1) := by decide +kernel
theorem dX5_digest_94 : decode cX5_digest 94 = .ok (.istore_n 3, 1) := by decide +kernel
theorem dX5_digest_95 : decode cX5_digest 95 = .ok (.iload_n 3, 1) := by decide +kernel
theorem dX5_digest_96 : decode cX5_digest 96 = .ok (.aload_n 0, 1) := by decide +kernel
theorem dX5_digest_97 : decode cX5_digest 97 = .ok (.getfield 10, 3) := by decide +kernel
theorem dX5_digest_100 : decode cX5_digest 100 = .ok (.getfield 75, 3) := by decide +kernel
theorem dX5_digest_103 : decode cX5_digest 103 = .ok (.if_icmp .ge 39, 3) := by decide +kernel
theorem dX5_digest_106 : decode cX5_digest 106 = .ok (.iconst 0, 1) := by decide +kernel
theorem dX5_digest_107 : decode cX5_digest 107 = .ok (.istore 4, 2) := by decide +kernel
theorem dX5_digest_109 : decode cX5_digest 109 = .ok (.iload 4, 2) := by decide +kernel
theorem dX5_digest_111 : decode cX5_digest 111 = .ok (.iconst 2, 1) := by decide +kernel
theorem dX5_digest_112 : decode cX5_digest 112 = .ok (.if_icmp .gt 24, 3) := by decide +kernel
theorem dX5_digest_115 : decode cX5_digest 115 = .ok (.ldc2_w 219, 3) := by decide +kernel
theorem dX5_digest_118 : decode cX5_digest 118 = .ok (.lload_n 1, 1) := by decide +kernel
theorem dX5_digest_119 : decode cX5_digest 119 = .ok (.lmul, 1) := by decide +kernel
theorem dX5_digest_120 : decode cX5_digest 120 = .ok (.aload_n 0, 1) := by decide +kernel
theorem dX5_digest_121 : decode cX5_digest 121 = .ok (.iload_n 3, 1) := by decide +kernel
theorem dX5_digest_122 : decode cX5_digest 122 = .ok (.iload 4, 2) := by decide +kernel
theorem dX5_digest_124 : decode cX5_digest 124 = .ok (.invokevirtual 230, 3) := by decide +kernel
theorem dX5_digest_127 : decode cX5_digest 127 = .ok (.i2l, 1) := by decide +kernel
theorem dX5_digest_128 : decode cX5_digest 128 = .ok (.ladd, 1) := by decide +kernel
theorem dX5_digest_129 : decode cX5_digest 129 = .ok (.lstore_n 1, 1) := by decide +kernel
theorem dX5_digest_130 : decode cX5_digest 130 = .ok (.iinc 4 1, 3) := by decide +kernel
theorem dX5_digest_133 : decode cX5_digest 133 = .ok (.goto (-24), 3) := by decide +kernel
theorem dX5_digest_136 : decode cX5_digest 136 = .ok (.iinc 3 1, 3) := by decide +kernel
theorem dX5_digest_139 : decode cX5_digest 139 = .ok (.goto (-44), 3) := by decide +kernel
theorem dX5_digest_142 : decode cX5_digest 142 = .ok (.lload_n 1, 1) := by decide +kernel
theorem dX5_digest_143 : decode cX5_digest 143 = .ok (.lreturn, 1) := by decide +kernel
theorem dX5_isAmount_0 : decode cX5_isAmount 0 = .ok (.iload_n 0, 1) := by decide +kernel
theorem dX5_isAmount_1 : decode cX5_isAmount 1 = .ok (.ifCond .lt 14, 3) := by decide +kernel
theorem dX5_isAmount_4 : decode cX5_isAmount 4 = .ok (.iload_n 0, 1) := by decide +kernel
theorem dX5_isAmount_5 : decode cX5_isAmount 5 = .ok (.sipush 1000, 3) := by decide +kernel
theorem dX5_isAmount_8 : decode cX5_isAmount 8 = .ok (.if_icmp .gt 7, 3) := by decide +kernel
theorem dX5_isAmount_11 : decode cX5_isAmount 11 = .ok (.iconst 1, 1) := by decide +kernel
theorem dX5_isAmount_12 : decode cX5_isAmount 12 = .ok (.goto 4, 3) := by decide +kernel
theorem dX5_isAmount_15 : decode cX5_isAmount 15 = .ok (.iconst 0, 1) := by decide +kernel
theorem dX5_isAmount_16 : decode cX5_isAmount 16 = .ok (.ireturn, 1) := by decide +kernel
theorem dX5_isKindWithGroup_0 : decode cX5_isKindWithGroup 0 = .ok (.iload_n 1, 1) := by decide +kernel
theorem dX5_isKindWithGroup_1 : decode cX5_isKindWithGroup 1 = .ok (.iconst 1, 1) := by decide +kernel
theorem dX5_isKindWithGroup_2 : decode cX5_isKindWithGroup 2 = .ok (.if_icmp .eq 8, 3) := by decide +kernel
theorem dX5_isKindWithGroup_5 : decode cX5_isKindWithGroup 5 = .ok (.iload_n 1, 1) := by decide +kernel
theorem dX5_isKindWithGroup_6 : decode cX5_isKindWithGroup 6 = .ok (.iconst 2, 1) := by decide +kernel
theorem dX5_isKindWithGroup_7 : decode cX5_isKindWithGroup 7 = .ok (.if_icmp .ne 18, 3) := by decide +kernel
theorem dX5_isKindWithGroup_10 : decode cX5_isKindWithGroup 10 = .ok (.iload_n 2, 1) := by decide +kernel
theorem dX5_isKindWithGroup_11 : decode cX5_isKindWithGroup 11 = .ok (.ifCond .lt 12, 3) := by decide +kernel
theorem dX5_isKindWithGroup_14 : decode cX5_isKindWithGroup 14 = .ok (.iload_n 2, 1) := by decide +kernel
theorem dX5_isKindWithGroup_15 : decode cX5_isKindWithGroup 15 = .ok (.iconst 4, 1) := by decide +kernel
theorem dX5_isKindWithGroup_16 : decode cX5_isKindWithGroup 16 = .ok (.if_icmp .ge 7, 3) := by decide +kernel
theorem dX5_isKindWithGroup_19 : decode cX5_isKindWithGroup 19 = .ok (.iconst 1, 1) := by decide +kernel
theorem dX5_isKindWithGroup_20 : decode cX5_isKindWithGroup 20 = .ok (.goto 4, 3) := by decide +kernel
theorem dX5_isKindWithGroup_23 : decode cX5_isKindWithGroup 23 = .ok (.iconst 0, 1) := by decide +kernel
theorem dX5_isKindWithGroup_24 : decode cX5_isKindWithGroup 24 = .ok (.ireturn, 1) := by decide +kernel
theorem dX5_isKindWithGroup_25 : decode cX5_isKindWithGroup 25 = .ok (.iload_n 1, 1) := by decide +kernel
theorem dX5_isKindWithGroup_26 : decode cX5_isKindWithGroup 26 = .ok (.iconst 4, 1) := by decide +kernel
theorem dX5_isKindWithGroup_27 : decode cX5_isKindWithGroup 27 = .ok (.if_icmp .ne 17, 3) := by decide +kernel
theorem dX5_isKindWithGroup_30 : decode cX5_isKindWithGroup 30 = .ok (.iload_n 2, 1) := by decide +kernel
theorem dX5_isKindWithGroup_31 : decode cX5_isKindWithGroup 31 = .ok (.aload_n 0, 1) := by decide +kernel
theorem dX5_isKindWithGroup_32 : decode cX5_isKindWithGroup 32 = .ok (.getfield 62, 3) := by decide +kernel
theorem dX5_isKindWithGroup_35 : decode cX5_isKindWithGroup 35 = .ok (.if_icmp .le 7, 3) := by decide +kernel
theorem dX5_isKindWithGroup_38 : decode cX5_isKindWithGroup 38 = .ok (.iconst 1, 1) := by decide +kernel
theorem dX5_isKindWithGroup_39 : decode cX5_isKindWithGroup 39 = .ok (.goto 4, 3) := by decide +kernel
theorem dX5_isKindWithGroup_42 : decode cX5_isKindWithGroup 42 = .ok (.iconst 0, 1) := by decide +kernel
theorem dX5_isKindWithGroup_43 : decode cX5_isKindWithGroup 43 = .ok (.ireturn, 1) := by decide +kernel
theorem dX5_isKindWithGroup_44 : decode cX5_isKindWithGroup 44 = .ok (.iload_n 1, 1) := by decide +kernel
theorem dX5_isKindWithGroup_45 : decode cX5_isKindWithGroup 45 = .ok (.ifCond .eq 8, 3) := by decide +kernel
theorem dX5_isKindWithGroup_48 : decode cX5_isKindWithGroup 48 = .ok (.iload_n 1, 1) := by decide +kernel
theorem dX5_isKindWithGroup_49 : decode cX5_isKindWithGroup 49 = .ok (.iconst 3, 1) := by decide +kernel
theorem dX5_isKindWithGroup_50 : decode cX5_isKindWithGroup 50 = .ok (.if_icmp .ne 7, 3) := by decide +kernel
theorem dX5_isKindWithGroup_53 : decode cX5_isKindWithGroup 53 = .ok (.iconst 1, 1) := by decide +kernel
theorem dX5_isKindWithGroup_54 : decode cX5_isKindWithGroup 54 = .ok (.goto 4, 3) := by decide +kernel
theorem dX5_isKindWithGroup_57 : decode cX5_isKindWithGroup 57 = .ok (.iconst 0, 1) := by decide +kernel
theorem dX5_isKindWithGroup_58 : decode cX5_isKindWithGroup 58 = .ok (.ireturn, 1) := by decide +kernel
theorem dX5_isGoal_0 : decode cX5_isGoal 0 = .ok (.iload_n 1, 1) := by decide +kernel
theorem dX5_isGoal_1 : decode cX5_isGoal 1 = .ok (.tableswitch 84 0 2 #[27, 36, 68], 27) := by decide +kernel
theorem dX5_isGoal_28 : decode cX5_isGoal 28 = .ok (.aload_n 0, 1) := by decide +kernel
theorem dX5_isGoal_29 : decode cX5_isGoal 29 = .ok (.getfield 10, 3) := by decide +kernel
theorem dX5_isGoal_32 : decode cX5_isGoal 32 = .ok (.iload_n 2, 1) := by decide +kernel
theorem dX5_isGoal_33 : decode cX5_isGoal 33 = .ok (.invokevirtual 86, 3) := by decide +kernel
theorem dX5_isGoal_36 : decode cX5_isGoal 36 = .ok (.ireturn, 1) := by decide +kernel
theorem dX5_isGoal_37 : decode cX5_isGoal 37 = .ok (.aload_n 0, 1) := by decide +kernel
theorem dX5_isGoal_38 : decode cX5_isGoal 38 = .ok (.getfield 10, 3) := by decide +kernel
theorem dX5_isGoal_41 : decode cX5_isGoal 41 = .ok (.iload_n 2, 1) := by decide +kernel
theorem dX5_isGoal_42 : decode cX5_isGoal 42 = .ok (.invokevirtual 86, 3) := by decide +kernel
theorem dX5_isGoal_45 : decode cX5_isGoal 45 = .ok (.ifCond .eq 22, 3) := by decide +kernel
theorem dX5_isGoal_48 : decode cX5_isGoal 48 = .ok (.iload_n 3, 1) := by decide +kernel
theorem dX5_isGoal_49 : decode cX5_isGoal 49 = .ok (.invokestatic 71, 3) := by decide +kernel
theorem dX5_isGoal_52 : decode cX5_isGoal 52 = .ok (.ifCond .eq 15, 3) := by decide +kernel
theorem dX5_isGoal_55 : decode cX5_isGoal 55 = .ok (.iload 4, 2) := by decide +kernel
theorem dX5_isGoal_57 : decode cX5_isGoal 57 = .ok (.invokestatic 71, 3) := by decide +kernel
theorem dX5_isGoal_60 : decode cX5_isGoal 60 = .ok (.ifCond .eq 7, 3) := by decide +kernel
theorem dX5_isGoal_63 : decode cX5_isGoal 63 = .ok (.iconst 1, 1) := by decide +kernel
theorem dX5_isGoal_64 : decode cX5_isGoal 64 = .ok (.goto 4, 3) := by decide +kernel
theorem dX5_isGoal_67 : decode cX5_isGoal 67 = .ok (.iconst 0, 1) := by decide +kernel
theorem dX5_isGoal_68 : decode cX5_isGoal 68 = .ok (.ireturn, 1) := by decide +kernel
theorem dX5_isGoal_69 : decode cX5_isGoal 69 = .ok (.iload_n 3, 1) := by decide +kernel
theorem dX5_isGoal_70 : decode cX5_isGoal 70 = .ok (.iconst 1, 1) := by decide +kernel
theorem dX5_isGoal_71 : decode cX5_isGoal 71 = .ok (.if_icmp .lt 12, 3) := by decide +kernel
theorem dX5_isGoal_74 : decode cX5_isGoal 74 = .ok (.iload_n 3, 1) := by decide +kernel
theorem dX5_isGoal_75 : decode cX5_isGoal 75 = .ok (.iconst 5, 1) := by decide +kernel
theorem dX5_isGoal_76 : decode cX5_isGoal 76 = .ok (.if_icmp .gt 7, 3) := by decide +kernel
theorem dX5_isGoal_79 : decode cX5_isGoal 79 = .ok (.iconst 1, 1) := by decide +kernel
theorem dX5_isGoal_80 : decode cX5_isGoal 80 = .ok (.goto 4, 3) := by decide +kernel
theorem dX5_isGoal_83 : decode cX5_isGoal 83 = .ok (.iconst 0, 1) := by decide +kernel
theorem dX5_isGoal_84 : decode cX5_isGoal 84 = .ok (.ireturn, 1) := by decide +kernel
theorem dX5_isGoal_85 : decode cX5_isGoal 85 = .ok (.iconst 0, 1) := by decide +kernel
theorem dX5_isGoal_86 : decode cX5_isGoal 86 = .ok (.ireturn, 1) := by decide +kernel
theorem dX5_isBlockAtHand_0 : decode cX5_isBlockAtHand 0 = .ok (.aload_n 0, 1) := by decide +kernel
theorem dX5_isBlockAtHand_1 : decode cX5_isBlockAtHand 1 = .ok (.getfield 10, 3) := by decide +kernel
theorem dX5_isBlockAtHand_4 : decode cX5_isBlockAtHand 4 = .ok (.getfield 130, 3) := by decide +kernel
theorem dX5_isBlockAtHand_7 : decode cX5_isBlockAtHand 7 = .ok (.iload_n 1, 1) := by decide +kernel
theorem dX5_isBlockAtHand_8 : decode cX5_isBlockAtHand 8 = .ok (.iaload, 1) := by decide +kernel
theorem dX5_isBlockAtHand_9 : decode cX5_isBlockAtHand 9 = .ok (.iload_n 1, 1) := by decide +kernel
theorem dX5_isBlockAtHand_10 : decode cX5_isBlockAtHand 10 = .ok (.if_icmp .ne 20, 3) := by decide +kernel
theorem dX5_isBlockAtHand_13 : decode cX5_isBlockAtHand 13 = .ok (.aload_n 0, 1) := by decide +kernel
theorem dX5_isBlockAtHand_14 : decode cX5_isBlockAtHand 14 = .ok (.getfield 21, 3) := by decide +kernel
theorem dX5_isBlockAtHand_17 : decode cX5_isBlockAtHand 17 = .ok (.getfield 115, 3) := by decide +kernel
theorem dX5_isBlockAtHand_20 : decode cX5_isBlockAtHand 20 = .ok (.iload_n 1, 1) := by decide +kernel
theorem dX5_isBlockAtHand_21 : decode cX5_isBlockAtHand 21 = .ok (.iaload, 1) := by decide +kernel
theorem dX5_isBlockAtHand_22 : decode cX5_isBlockAtHand 22 = .ok (.iconst (-1), 1) := by decide +kernel
theorem dX5_isBlockAtHand_23 : decode cX5_isBlockAtHand 23 = .ok (.if_icmp .eq 7, 3) := by decide +kernel
theorem dX5_isBlockAtHand_26 : decode cX5_isBlockAtHand 26 = .ok (.iconst 1, 1) := by decide +kernel
theorem dX5_isBlockAtHand_27 : decode cX5_isBlockAtHand 27 = .ok (.goto 4, 3) := by decide +kernel
theorem dX5_isBlockAtHand_30 : decode cX5_isBlockAtHand 30 = .ok (.iconst 0, 1) := by decide +kernel
theorem dX5_isBlockAtHand_31 : decode cX5_isBlockAtHand 31 = .ok (.ireturn, 1) := by decide +kernel
theorem dX5_lacksOrder_0 : decode cX5_lacksOrder 0 = .ok (.aload_n 0, 1) := by decide +kernel
theorem dX5_lacksOrder_1 : decode cX5_lacksOrder 1 = .ok (.getfield 54, 3) := by decide +kernel
theorem dX5_lacksOrder_4 : decode cX5_lacksOrder 4 = .ok (.ifCond .eq 21, 3) := by decide +kernel
theorem dX5_lacksOrder_7 : decode cX5_lacksOrder 7 = .ok (.aload_n 0, 1) := by decide +kernel
theorem dX5_lacksOrder_8 : decode cX5_lacksOrder 8 = .ok (.getfield 37, 3) := by decide +kernel
theorem dX5_lacksOrder_11 : decode cX5_lacksOrder 11 = .ok (.aload_n 0, 1) := by decide +kernel
theorem dX5_lacksOrder_12 : decode cX5_lacksOrder 12 = .ok (.getfield 50, 3) := by decide +kernel
theorem dX5_lacksOrder_15 : decode cX5_lacksOrder 15 = .ok (.invokevirtual 180, 3) := by decide +kernel
theorem dX5_lacksOrder_18 : decode cX5_lacksOrder 18 = .ok (.ifCond .ne 7, 3) := by decide +kernel
theorem dX5_lacksOrder_21 : decode cX5_lacksOrder 21 = .ok (.iconst 1, 1) := by decide +kernel
theorem dX5_lacksOrder_22 : decode cX5_lacksOrder 22 = .ok (.goto 4, 3) := by decide +kernel
theorem dX5_lacksOrder_25 : decode cX5_lacksOrder 25 = .ok (.iconst 0, 1) := by decide +kernel
theorem dX5_lacksOrder_26 : decode cX5_lacksOrder 26 = .ok (.ireturn, 1) := by decide +kernel
theorem dX5_makeMove_0 : decode cX5_makeMove 0 = .ok (.aload_n 0, 1) := by decide +kernel
theorem dX5_makeMove_1 : decode cX5_makeMove 1 = .ok (.getfield 21, 3) := by decide +kernel
theorem dX5_makeMove_4 : decode cX5_makeMove 4 = .ok (.iload_n 1, 1) := by decide +kernel
theorem dX5_makeMove_5 : decode cX5_makeMove 5 = .ok (.iload_n 2, 1) := by decide +kernel
theorem dX5_makeMove_6 : decode cX5_makeMove 6 = .ok (.invokevirtual 233, 3) := by decide +kernel
theorem dX5_makeMove_9 : decode cX5_makeMove 9 = .ok (.aload_n 0, 1) := by decide +kernel
theorem dX5_makeMove_10 : decode cX5_makeMove 10 = .ok (.dup, 1) := by decide +kernel
theorem dX5_makeMove_11 : decode cX5_makeMove 11 = .ok (.getfield 68, 3) := by decide +kernel
theorem dX5_makeMove_14 : decode cX5_makeMove 14 = .ok (.aload_n 0, 1) := by decide +kernel
theorem dX5_makeMove_15 : decode cX5_makeMove 15 = .ok (.getfield 10, 3) := by decide +kernel
theorem dX5_makeMove_18 : decode cX5_makeMove 18 = .ok (.iload_n 1, 1) := by decide +kernel
theorem dX5_makeMove_19 : decode cX5_makeMove 19 = .ok (.invokevirtual 236, 3) := by decide +kernel
theorem dX5_makeMove_22 : decode cX5_makeMove 22 = .ok (.iadd, 1) := by decide +kernel
theorem dX5_makeMove_23 : decode cX5_makeMove 23 = .ok (.putfield 68, 3) := by decide +kernel
theorem dX5_makeMove_26 : decode cX5_makeMove 26 = .ok (.return_, 1) := by decide +kernel
