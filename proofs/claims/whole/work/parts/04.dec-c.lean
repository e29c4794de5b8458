theorem dX6_init_0 : decode cX6_init 0 = .ok (.aload_n 0, 1) := by decide +kernel
theorem dX6_init_1 : decode cX6_init 1 = .ok (.invokespecial 1, 3) := by decide +kernel
theorem dX6_init_4 : decode cX6_init 4 = .ok (.aload_n 0, 1) := by decide +kernel
theorem dX6_init_5 : decode cX6_init 5 = .ok (.iconst 5, 1) := by decide +kernel
theorem dX6_init_6 : decode cX6_init 6 = .ok (.newarray .int, 2) := by decide +kernel
theorem dX6_init_8 : decode cX6_init 8 = .ok (.putfield 7, 3) := by decide +kernel
theorem dX6_init_11 : decode cX6_init 11 = .ok (.aload_n 0, 1) := by decide +kernel
theorem dX6_init_12 : decode cX6_init 12 = .ok (.iconst 5, 1) := by decide +kernel
theorem dX6_init_13 : decode cX6_init 13 = .ok (.newarray .int, 2) := by decide +kernel
theorem dX6_init_15 : decode cX6_init 15 = .ok (.putfield 13, 3) := by decide +kernel
theorem dX6_init_18 : decode cX6_init 18 = .ok (.aload_n 0, 1) := by decide +kernel
theorem dX6_init_19 : decode cX6_init 19 = .ok (.bipush 8, 2) := by decide +kernel
theorem dX6_init_21 : decode cX6_init 21 = .ok (.newarray .int, 2) := by decide +kernel
theorem dX6_init_23 : decode cX6_init 23 = .ok (.putfield 16, 3) := by decide +kernel
theorem dX6_init_26 : decode cX6_init 26 = .ok (.aload_n 0, 1) := by decide +kernel
theorem dX6_init_27 : decode cX6_init 27 = .ok (.bipush 8, 2) := by decide +kernel
theorem dX6_init_29 : decode cX6_init 29 = .ok (.newarray .int, 2) := by decide +kernel
theorem dX6_init_31 : decode cX6_init 31 = .ok (.putfield 19, 3) := by decide +kernel
theorem dX6_init_34 : decode cX6_init 34 = .ok (.aload_n 0, 1) := by decide +kernel
theorem dX6_init_35 : decode cX6_init 35 = .ok (.bipush 8, 2) := by decide +kernel
theorem dX6_init_37 : decode cX6_init 37 = .ok (.newarray .int, 2) := by decide +kernel
theorem dX6_init_39 : decode cX6_init 39 = .ok (.putfield 22, 3) := by decide +kernel
theorem dX6_init_42 : decode cX6_init 42 = .ok (.aload_n 0, 1) := by decide +kernel
theorem dX6_init_43 : decode cX6_init 43 = .ok (.bipush 8, 2) := by decide +kernel
theorem dX6_init_45 : decode cX6_init 45 = .ok (.newarray .int, 2) := by decide +kernel
theorem dX6_init_47 : decode cX6_init 47 = .ok (.putfield 25, 3) := by decide +kernel
theorem dX6_init_50 : decode cX6_init 50 = .ok (.aload_n 0, 1) := by decide +kernel
theorem dX6_init_51 : decode cX6_init 51 = .ok (.bipush 8, 2) := by decide +kernel
theorem dX6_init_53 : decode cX6_init 53 = .ok (.newarray .int, 2) := by decide +kernel
theorem dX6_init_55 : decode cX6_init 55 = .ok (.putfield 28, 3) := by decide +kernel
theorem dX6_init_58 : decode cX6_init 58 = .ok (.aload_n 0, 1) := by decide +kernel
theorem dX6_init_59 : decode cX6_init 59 = .ok (.bipush 8, 2) := by decide +kernel
theorem dX6_init_61 : decode cX6_init 61 = .ok (.newarray .boolean, 2) := by decide +kernel
theorem dX6_init_63 : decode cX6_init 63 = .ok (.putfield 31, 3) := by decide +kernel
theorem dX6_init_66 : decode cX6_init 66 = .ok (.aload_n 0, 1) := by decide +kernel
theorem dX6_init_67 : decode cX6_init 67 = .ok (.bipush 10, 2) := by decide +kernel
theorem dX6_init_69 : decode cX6_init 69 = .ok (.putfield 35, 3) := by decide +kernel
theorem dX6_init_72 : decode cX6_init 72 = .ok (.aload_n 0, 1) := by decide +kernel
theorem dX6_init_73 : decode cX6_init 73 = .ok (.bipush 8, 2) := by decide +kernel
theorem dX6_init_75 : decode cX6_init 75 = .ok (.newarray .int, 2) := by decide +kernel
theorem dX6_init_77 : decode cX6_init 77 = .ok (.putfield 39, 3) := by decide +kernel
theorem dX6_init_80 : decode cX6_init 80 = .ok (.aload_n 0, 1) := by decide +kernel
theorem dX6_init_81 : decode cX6_init 81 = .ok (.bipush 8, 2) := by decide +kernel
theorem dX6_init_83 : decode cX6_init 83 = .ok (.newarray .int, 2) := by decide +kernel
theorem dX6_init_85 : decode cX6_init 85 = .ok (.putfield 42, 3) := by decide +kernel
theorem dX6_init_88 : decode cX6_init 88 = .ok (.aload_n 0, 1) := by decide +kernel
theorem dX6_init_89 : decode cX6_init 89 = .ok (.bipush 8, 2) := by decide +kernel
theorem dX6_init_91 : decode cX6_init 91 = .ok (.newarray .int, 2) := by decide +kernel
theorem dX6_init_93 : decode cX6_init 93 = .ok (.putfield 45, 3) := by decide +kernel
theorem dX6_init_96 : decode cX6_init 96 = .ok (.aload_n 0, 1) := by decide +kernel
theorem dX6_init_97 : decode cX6_init 97 = .ok (.bipush 8, 2) := by decide +kernel
theorem dX6_init_99 : decode cX6_init 99 = .ok (.newarray .int, 2) := by decide +kernel
theorem dX6_init_101 : decode cX6_init 101 = .ok (.putfield 48, 3) := by decide +kernel
theorem dX6_init_104 : decode cX6_init 104 = .ok (.aload_n 0, 1) := by decide +kernel
theorem dX6_init_105 : decode cX6_init 105 = .ok (.bipush 8, 2) := by decide +kernel
theorem dX6_init_107 : decode cX6_init 107 = .ok (.newarray .int, 2) := by decide +kernel
theorem dX6_init_109 : decode cX6_init 109 = .ok (.putfield 51, 3) := by decide +kernel
theorem dX6_init_112 : decode cX6_init 112 = .ok (.aload_n 0, 1) := by decide +kernel
theorem dX6_init_113 : decode cX6_init 113 = .ok (.sipush 768, 3) := by decide +kernel
theorem dX6_init_116 : decode cX6_init 116 = .ok (.newarray .boolean, 2) := by decide +kernel
theorem dX6_init_118 : decode cX6_init 118 = .ok (.putfield 54, 3) := by decide +kernel
theorem dX6_init_121 : decode cX6_init 121 = .ok (.aload_n 0, 1) := by decide +kernel
theorem dX6_init_122 : decode cX6_init 122 = .ok (.bipush 8, 2) := by decide +kernel
theorem dX6_init_124 : decode cX6_init 124 = .ok (.newarray .boolean, 2) := by decide +kernel
theorem dX6_init_126 : decode cX6_init 126 = .ok (.putfield 57, 3) := by decide +kernel
theorem dX6_init_129 : decode cX6_init 129 = .ok (.return_, 1) := by decide +kernel
theorem dX6_in_0 : decode cX6_in 0 = .ok (.iload_n 0, 1) := by decide +kernel
theorem dX6_in_1 : decode cX6_in 1 = .ok (.iload_n 1, 1) := by decide +kernel
theorem dX6_in_2 : decode cX6_in 2 = .ok (.if_icmp .lt 12, 3) := by decide +kernel
theorem dX6_in_5 : decode cX6_in 5 = .ok (.iload_n 0, 1) := by decide +kernel
theorem dX6_in_6 : decode cX6_in 6 = .ok (.iload_n 2, 1) := by decide +kernel
theorem dX6_in_7 : decode cX6_in 7 = .ok (.if_icmp .gt 7, 3) := by decide +kernel
theorem dX6_in_10 : decode cX6_in 10 = .ok (.iconst 1, 1) := by decide +kernel
theorem dX6_in_11 : decode cX6_in 11 = .ok (.goto 4, 3) := by decide +kernel
theorem dX6_in_14 : decode cX6_in 14 = .ok (.iconst 0, 1) := by decide +kernel
theorem dX6_in_15 : decode cX6_in 15 = .ok (.ireturn, 1) := by decide +kernel
theorem dX6_machine_0 : decode cX6_machine 0 = .ok (.iload_n 1, 1) := by decide +kernel
theorem dX6_machine_1 : decode cX6_machine 1 = .ok (.iconst 0, 1) := by decide +kernel
theorem dX6_machine_2 : decode cX6_machine 2 = .ok (.sipush 1000, 3) := by decide +kernel
theorem dX6_machine_5 : decode cX6_machine 5 = .ok (.invokestatic 60, 3) := by decide +kernel
theorem dX6_machine_8 : decode cX6_machine 8 = .ok (.ifCond .eq 14, 3) := by decide +kernel
theorem dX6_machine_11 : decode cX6_machine 11 = .ok (.iload_n 2, 1) := by decide +kernel
theorem dX6_machine_12 : decode cX6_machine 12 = .ok (.iconst 0, 1) := by decide +kernel
theorem dX6_machine_13 : decode cX6_machine 13 = .ok (.sipush 1000, 3) := by decide +kernel
theorem dX6_machine_16 : decode cX6_machine 16 = .ok (.invokestatic 60, 3) := by decide +kernel
theorem dX6_machine_19 : decode cX6_machine 19 = .ok (.ifCond .ne 6, 3) := by decide +kernel
theorem dX6_machine_22 : decode cX6_machine 22 = .ok (.bipush (-2), 2) := by decide +kernel
theorem dX6_machine_24 : decode cX6_machine 24 = .ok (.ireturn, 1) := by decide +kernel
theorem dX6_machine_25 : decode cX6_machine 25 = .ok (.aload_n 0, 1) := by decide +kernel
theorem dX6_machine_26 : decode cX6_machine 26 = .ok (.getfield 64, 3) := by decide +kernel
theorem dX6_machine_29 : decode cX6_machine 29 = .ok (.iconst 5, 1) := by decide +kernel
theorem dX6_machine_30 : decode cX6_machine 30 = .ok (.if_icmp .ne 6, 3) := by decide +kernel
theorem dX6_machine_33 : decode cX6_machine 33 = .ok (.bipush (-4), 2) := by decide +kernel
theorem dX6_machine_35 : decode cX6_machine 35 = .ok (.ireturn, 1) := by decide +kernel
theorem dX6_machine_36 : decode cX6_machine 36 = .ok (.aload_n 0, 1) := by decide +kernel
theorem dX6_machine_37 : decode cX6_machine 37 = .ok (.getfield 7, 3) := by decide +kernel
theorem dX6_machine_40 : decode cX6_machine 40 = .ok (.aload_n 0, 1) := by decide +kernel
theorem dX6_machine_41 : decode cX6_machine 41 = .ok (.getfield 64, 3) := by decide +kernel
theorem dX6_machine_44 : decode cX6_machine 44 = .ok (.iload_n 1, 1) := by decide +kernel
theorem dX6_machine_45 : decode cX6_machine 45 = .ok (.iastore, 1) := by decide +kernel
theorem dX6_machine_46 : decode cX6_machine 46 = .ok (.aload_n 0, 1) := by decide +kernel
theorem dX6_machine_47 : decode cX6_machine 47 = .ok (.getfield 13, 3) := by decide +kernel
theorem dX6_machine_50 : decode cX6_machine 50 = .ok (.aload_n 0, 1) := by decide +kernel
theorem dX6_machine_51 : decode cX6_machine 51 = .ok (.getfield 64, 3) := by decide +kernel
theorem dX6_machine_54 : decode cX6_machine 54 = .ok (.iload_n 2, 1) := by decide +kernel
theorem dX6_machine_55 : decode cX6_machine 55 = .ok (.iastore, 1) := by decide +kernel
theorem dX6_machine_56 : decode cX6_machine 56 = .ok (.aload_n 0, 1) := by decide +kernel
theorem dX6_machine_57 : decode cX6_machine 57 = .ok (.dup, 1) := by decide +kernel
theorem dX6_machine_58 : decode cX6_machine 58 = .ok (.getfield 64, 3) := by decide +kernel
theorem dX6_machine_61 : decode cX6_machine 61 = .ok (.iconst 1, 1) := by decide +kernel
theorem dX6_machine_62 : decode cX6_machine 62 = .ok (.iadd, 1) := by decide +kernel
theorem dX6_machine_63 : decode cX6_machine 63 = .ok (.putfield 64, 3) := by decide +kernel
theorem dX6_machine_66 : decode cX6_machine 66 = .ok (.aload_n 0, 1) := by decide +kernel
theorem dX6_machine_67 : decode cX6_machine 67 = .ok (.getfield 64, 3) := by decide +kernel
theorem dX6_machine_70 : decode cX6_machine 70 = .ok (.iconst 1, 1) := by decide +kernel
theorem dX6_machine_71 : decode cX6_machine 71 = .ok (.isub, 1) := by decide +kernel
theorem dX6_machine_72 : decode cX6_machine 72 = .ok (.ireturn, 1) := by decide +kernel
theorem dX6_isMachine_0 : decode cX6_isMachine 0 = .ok (.iload_n 1, 1) := by decide +kernel
theorem dX6_isMachine_1 : decode cX6_isMachine 1 = .ok (.iconst 0, 1) := by decide +kernel
theorem dX6_isMachine_2 : decode cX6_isMachine 2 = .ok (.aload_n 0, 1) := by decide +kernel
theorem dX6_isMachine_3 : decode cX6_isMachine 3 = .ok (.getfield 64, 3) := by decide +kernel
theorem dX6_isMachine_6 : decode cX6_isMachine 6 = .ok (.iconst 1, 1) := by decide +kernel
theorem dX6_isMachine_7 : decode cX6_isMachine 7 = .ok (.isub, 1) := by decide +kernel
theorem dX6_isMachine_8 : decode cX6_isMachine 8 = .ok (.invokestatic 60, 3) := by decide +kernel
theorem dX6_isMachine_11 : decode cX6_isMachine 11 = .ok (.ireturn, 1) := by decide +kernel
theorem dX6_isLike_0 : decode cX6_isLike 0 = .ok (.aload_n 0, 1) := by decide +kernel
theorem dX6_isLike_1 : decode cX6_isLike 1 = .ok (.getfield 22, 3) := by decide +kernel
theorem dX6_isLike_4 : decode cX6_isLike 4 = .ok (.iload_n 1, 1) := by decide +kernel
theorem dX6_isLike_5 : decode cX6_isLike 5 = .ok (.iaload, 1) := by decide +kernel
theorem dX6_isLike_6 : decode cX6_isLike 6 = .ok (.iload_n 3, 1) := by decide +kernel
theorem dX6_isLike_7 : decode cX6_isLike 7 = .ok (.if_icmp .ne 32, 3) := by decide +kernel
theorem dX6_isLike_10 : decode cX6_isLike 10 = .ok (.aload_n 0, 1) := by decide +kernel
theorem dX6_isLike_11 : decode cX6_isLike 11 = .ok (.getfield 22, 3) := by decide +kernel
theorem dX6_isLike_14 : decode cX6_isLike 14 = .ok (.iload_n 2, 1) := by decide +kernel
theorem dX6_isLike_15 : decode cX6_isLike 15 = .ok (.iaload, 1) := by decide +kernel
theorem dX6_isLike_16 : decode cX6_isLike 16 = .ok (.iload_n 3, 1) := by decide +kernel
theorem dX6_isLike_17 : decode cX6_isLike 17 = .ok (.if_icmp .ne 22, 3) := by decide +kernel
theorem dX6_isLike_20 : decode cX6_isLike 20 = .ok (.aload_n 0, 1) := by decide +kernel
theorem dX6_isLike_21 : decode cX6_isLike 21 = .ok (.getfield 25, 3) := by decide +kernel
theorem dX6_isLike_24 : decode cX6_isLike 24 = .ok (.iload_n 1, 1) := by decide +kernel
theorem dX6_isLike_25 : decode cX6_isLike 25 = .ok (.iaload, 1) := by decide +kernel
theorem dX6_isLike_26 : decode cX6_isLike 26 = .ok (.aload_n 0, 1) := by decide +kernel
theorem dX6_isLike_27 : decode cX6_isLike 27 = .ok (.getfield 25, 3) := by decide +kernel
theorem dX6_isLike_30 : decode cX6_isLike 30 = .ok (.iload_n 2, 1) := by decide +kernel
theorem dX6_isLike_31 : decode cX6_isLike 31 = .ok (.iaload, 1) := by decide +kernel
theorem dX6_isLike_32 : decode cX6_isLike 32 = .ok (.if_icmp .ne 7, 3) := by decide +kernel
theorem dX6_isLike_35 : decode cX6_isLike 35 = .ok (.iconst 1, 1) := by decide +kernel
theorem dX6_isLike_36 : decode cX6_isLike 36 = .ok (.goto 4, 3) := by decide +kernel
theorem dX6_isLike_39 : decode cX6_isLike 39 = .ok (.iconst 0, 1) := by decide +kernel
theorem dX6_isLike_40 : decode cX6_isLike 40 = .ok (.ireturn, 1) := by decide +kernel
theorem dX6_isRight_0 : decode cX6_isRight 0 = .ok (.iconst 1, 1) := by decide +kernel
theorem dX6_isRight_1 : decode cX6_isRight 1 = .ok (.istore_n 1, 1) := by decide +kernel
theorem dX6_isRight_2 : decode cX6_isRight 2 = .ok (.iconst 0, 1) := by decide +kernel
theorem dX6_isRight_3 : decode cX6_isRight 3 = .ok (.istore_n 2, 1) := by decide +kernel
theorem dX6_isRight_4 : decode cX6_isRight 4 = .ok (.iload_n 2, 1) := by decide +kernel
theorem dX6_isRight_5 : decode cX6_isRight 5 = .ok (.aload_n 0, 1) := by decide +kernel
theorem dX6_isRight_6 : decode cX6_isRight 6 = .ok (.getfield 64, 3) := by decide +kernel
theorem dX6_isRight_9 : decode cX6_isRight 9 = .ok (.if_icmp .ge 131, 3) := by decide +kernel
theorem dX6_isRight_12 : decode cX6_isRight 12 = .ok (.iconst 0, 1) := by decide +kernel
theorem dX6_isRight_13 : decode cX6_isRight 13 = .ok (.istore_n 3, 1) := by decide +kernel
theorem dX6_isRight_14 : decode cX6_isRight 14 = .ok (.iconst 0, 1) := by decide +kernel
theorem dX6_isRight_15 : decode cX6_isRight 15 = .ok (.istore 4, 2) := by decide +kernel
theorem dX6_isRight_17 : decode cX6_isRight 17 = .ok (.iconst 0, 1) := by decide +kernel
theorem dX6_isRight_18 : decode cX6_isRight 18 = .ok (.istore 5, 2) := by decide +kernel
theorem dX6_isRight_20 : decode cX6_isRight 20 = .ok (.iload 5, 2) := by decide +kernel
theorem dX6_isRight_22 : decode cX6_isRight 22 = .ok (.aload_n 0, 1) := by decide +kernel
theorem dX6_isRight_23 : decode cX6_isRight 23 = .ok (.getfield 67, 3) := by decide +kernel
theorem dX6_isRight_26 : decode cX6_isRight 26 = .ok (.if_icmp .ge 77, 3) := by decide +kernel
theorem dX6_isRight_29 : decode cX6_isRight 29 = .ok (.aload_n 0, 1) := by decide +kernel
theorem dX6_isRight_30 : decode cX6_isRight 30 = .ok (.getfield 31, 3) := by decide +kernel
theorem dX6_isRight_33 : decode cX6_isRight 33 = .ok (.iload 5, 2) := by decide +kernel
theorem dX6_isRight_35 : decode cX6_isRight 35 = .ok (.baload, 1) := by decide +kernel
theorem dX6_isRight_36 : decode cX6_isRight 36 = .ok (.ifCond .ne 18, 3) := by decide +kernel
theorem dX6_isRight_39 : decode cX6_isRight 39 = .ok (.aload_n 0, 1) := by decide +kernel
theorem dX6_isRight_40 : decode cX6_isRight 40 = .ok (.getfield 28, 3) := by decide +kernel
theorem dX6_isRight_43 : decode cX6_isRight 43 = .ok (.iload 5, 2) := by decide +kernel
theorem dX6_isRight_45 : decode cX6_isRight 45 = .ok (.iaload, 1) := by decide +kernel
theorem dX6_isRight_46 : decode cX6_isRight 46 = .ok (.iload_n 2, 1) := by decide +kernel
theorem dX6_isRight_47 : decode cX6_isRight 47 = .ok (.if_icmp .ne 7, 3) := by decide +kernel
theorem dX6_isRight_50 : decode cX6_isRight 50 = .ok (.iconst 1, 1) := by decide +kernel
theorem dX6_isRight_51 : decode cX6_isRight 51 = .ok (.goto 4, 3) := by decide +kernel
theorem dX6_isRight_54 : decode cX6_isRight 54 = .ok (.iconst 0, 1) := by decide +kernel
theorem dX6_isRight_55 : decode cX6_isRight 55 = .ok (.istore 6, 2) := by decide +kernel
theorem dX6_isRight_57 : decode cX6_isRight 57 = .ok (.iload_n 3, 1) := by decide +kernel
theorem dX6_isRight_58 : decode cX6_isRight 58 = .ok (.iload 6, 2) := by decide +kernel
theorem dX6_isRight_60 : decode cX6_isRight 60 = .ok (.ifCond .eq 13, 3) := by decide +kernel
theorem dX6_isRight_63 : decode cX6_isRight 63 = .ok (.aload_n 0, 1) := by decide +kernel
theorem dX6_isRight_64 : decode cX6_isRight 64 = .ok (.getfield 16, 3) := by decide +kernel
theorem dX6_isRight_67 : decode cX6_isRight 67 = .ok (.iload 5, 2) := by decide +kernel
theorem dX6_isRight_69 : decode cX6_isRight 69 = .ok (.iaload, 1) := by decide +kernel
theorem dX6_isRight_70 : decode cX6_isRight 70 = .ok (.goto 4, 3) := by decide +kernel
theorem dX6_isRight_73 : decode cX6_isRight 73 = .ok (.iconst 0, 1) := by decide +kernel
theorem dX6_isRight_74 : decode cX6_isRight 74 = .ok (.iadd, 1) := by decide +kernel
theorem dX6_isRight_75 : decode cX6_isRight 75 = .ok (.istore_n 3, 1) := by decide +kernel
theorem dX6_isRight_76 : decode cX6_isRight 76 = .ok (.iload 4, 2) := by decide +kernel
theorem dX6_isRight_78 : decode cX6_isRight 78 = .ok (.iload 6, 2) := by decide +kernel
theorem dX6_isRight_80 : decode cX6_isRight 80 = .ok (.ifCond .eq 13, 3) := by decide +kernel
theorem dX6_isRight_83 : decode cX6_isRight 83 = .ok (.aload_n 0, 1) := by decide +kernel
theorem dX6_isRight_84 : decode cX6_isRight 84 = .ok (.getfield 19, 3) := by decide +kernel
theorem dX6_isRight_87 : decode cX6_isRight 87 = .ok (.iload 5, 2) := by decide +kernel
theorem dX6_isRight_89 : decode cX6_isRight 89 = .ok (.iaload, 1) := by decide +kernel
theorem dX6_isRight_90 : decode cX6_isRight 90 = .ok (.goto 4, 3) := by decide +kernel
theorem dX6_isRight_93 : decode cX6_isRight 93 = .ok (.iconst 0, 1) := by decide +kernel
theorem dX6_isRight_94 : decode cX6_isRight 94 = .ok (.iadd, 1) := by decide +kernel
theorem dX6_isRight_95 : decode cX6_isRight 95 = .ok (.istore 4, 2) := by decide +kernel
theorem dX6_isRight_97 : decode cX6_isRight 97 = .ok (.iinc 5 1, 3) := by decide +kernel
theorem dX6_isRight_100 : decode cX6_isRight 100 = .ok (.goto (-80), 3) := by decide +kernel
theorem dX6_isRight_103 : decode cX6_isRight 103 = .ok (.iload_n 1, 1) := by decide +kernel
theorem dX6_isRight_104 : decode cX6_isRight 104 = .ok (.ifCond .eq 28, 3) := by decide +kernel
theorem dX6_isRight_107 : decode cX6_isRight 107 = .ok (.iload_n 3, 1) := by decide +kernel
theorem dX6_isRight_108 : decode cX6_isRight 108 = .ok (.aload_n 0, 1) := by decide +kernel
theorem dX6_isRight_109 : decode cX6_isRight 109 = .ok (.getfield 7, 3) := by decide +kernel
theorem dX6_isRight_112 : decode cX6_isRight 112 = .ok (.iload_n 2, 1) := by decide +kernel
theorem dX6_isRight_113 : decode cX6_isRight 113 = .ok (.iaload, 1) := by decide +kernel
theorem dX6_isRight_114 : decode cX6_isRight 114 = .ok (.if_icmp .gt 18, 3) := by decide +kernel
theorem dX6_isRight_117 : decode cX6_isRight 117 = .ok (.iload 4, 2) := by decide +kernel
theorem dX6_isRight_119 : decode cX6_isRight 119 = .ok (.aload_n 0, 1) := by decide +kernel
theorem dX6_isRight_120 : decode cX6_isRight 120 = .ok (.getfield 13, 3) := by decide +kernel
theorem dX6_isRight_123 : decode cX6_isRight 123 = .ok (.iload_n 2, 1) := by decide +kernel
theorem dX6_isRight_124 : decode cX6_isRight 124 = .ok (.iaload, 1) := by decide +kernel
theorem dX6_isRight_125 : decode cX6_isRight 125 = .ok (.if_icmp .gt 7, 3) := by decide +kernel
theorem dX6_isRight_128 : decode cX6_isRight 128 = .ok (.iconst 1, 1) := by decide +kernel
theorem dX6_isRight_129 : decode cX6_isRight 129 = .ok (.goto 4, 3) := by decide +kernel
theorem dX6_isRight_132 : decode cX6_isRight 132 = .ok (.iconst 0, 1) := by decide +kernel
theorem dX6_isRight_133 : decode cX6_isRight 133 = .ok (.istore_n 1, 1) := by decide +kernel
theorem dX6_isRight_134 : decode cX6_isRight 134 = .ok (.iinc 2 1, 3) := by decide +kernel
theorem dX6_isRight_137 : decode cX6_isRight 137 = .ok (.goto (-133), 3) := by decide +kernel
theorem dX6_isRight_140 : decode cX6_isRight 140 = .ok (.iconst 0, 1) := by decide +kernel
theorem dX6_isRight_141 : decode cX6_isRight 141 = .ok (.istore_n 2, 1) := by decide +kernel
theorem dX6_isRight_142 : decode cX6_isRight 142 = .ok (.iload_n 2, 1) := by decide +kernel
theorem dX6_isRight_143 : decode cX6_isRight 143 = .ok (.aload_n 0, 1) := by decide +kernel
theorem dX6_isRight_144 : decode cX6_isRight 144 = .ok (.getfield 67, 3) := by decide +kernel
theorem dX6_isRight_147 : decode cX6_isRight 147 = .ok (.if_icmp .ge 100, 3) := by decide +kernel
theorem dX6_isRight_150 : decode cX6_isRight 150 = .ok (.iconst 0, 1) := by decide +kernel
theorem dX6_isRight_151 : decode cX6_isRight 151 = .ok (.istore_n 3, 1) := by decide +kernel
theorem dX6_isRight_152 : decode cX6_isRight 152 = .ok (.iload_n 3, 1) := by decide +kernel
theorem dX6_isRight_153 : decode cX6_isRight 153 = .ok (.iload_n 2, 1) := by decide +kernel
theorem dX6_isRight_154 : decode cX6_isRight 154 = .ok (.if_icmp .ge 87, 3) := by decide +kernel
theorem dX6_isRight_157 : decode cX6_isRight 157 = .ok (.aload_n 0, 1) := by decide +kernel
theorem dX6_isRight_158 : decode cX6_isRight 158 = .ok (.getfield 31, 3) := by decide +kernel
theorem dX6_isRight_161 : decode cX6_isRight 161 = .ok (.iload_n 2, 1) := by decide +kernel
theorem dX6_isRight_162 : decode cX6_isRight 162 = .ok (.baload, 1) := by decide +kernel
theorem dX6_isRight_163 : decode cX6_isRight 163 = .ok (.ifCond .ne 72, 3) := by decide +kernel
theorem dX6_isRight_166 : decode cX6_isRight 166 = .ok (.aload_n 0, 1) := by decide +kernel
theorem dX6_isRight_167 : decode cX6_isRight 167 = .ok (.getfield 31, 3) := by decide +kernel
theorem dX6_isRight_170 : decode cX6_isRight 170 = .ok (.iload_n 3, 1) := by decide +kernel
theorem dX6_isRight_171 : decode cX6_isRight 171 = .ok (.baload, 1) := by decide +kernel
theorem dX6_isRight_172 : decode cX6_isRight 172 = .ok (.ifCond .ne 63, 3) := by decide +kernel
theorem dX6_isRight_175 : decode cX6_isRight 175 = .ok (.iload_n 1, 1) := by decide +kernel
theorem dX6_isRight_176 : decode cX6_isRight 176 = .ok (.ifCond .eq 57, 3) := by decide +kernel
theorem dX6_isRight_179 : decode cX6_isRight 179 = .ok (.aload_n 0, 1) := by decide +kernel
theorem dX6_isRight_180 : decode cX6_isRight 180 = .ok (.iload_n 2, 1) := by decide +kernel
theorem dX6_isRight_181 : decode cX6_isRight 181 = .ok (.iload_n 3, 1) := by decide +kernel
theorem dX6_isRight_182 : decode cX6_isRight 182 = .ok (.iconst 1, 1) := by decide +kernel
theorem dX6_isRight_183 : decode cX6_isRight 183 = .ok (.invokevirtual 70, 3) := by decide +kernel
theorem dX6_isRight_186 : decode cX6_isRight 186 = .ok (.ifCond .eq 18, 3) := by decide +kernel
theorem dX6_isRight_189 : decode cX6_isRight 189 = .ok (.aload_n 0, 1) := by decide +kernel
theorem dX6_isRight_190 : decode cX6_isRight 190 = .ok (.getfield 28, 3) := by decide +kernel
theorem dX6_isRight_193 : decode cX6_isRight 193 = .ok (.iload_n 2, 1) := by decide +kernel
theorem dX6_isRight_194 : decode cX6_isRight 194 = .ok (.iaload, 1) := by decide +kernel
theorem dX6_isRight_195 : decode cX6_isRight 195 = .ok (.aload_n 0, 1) := by decide +kernel
theorem dX6_isRight_196 : decode cX6_isRight 196 = .ok (.getfield 28, 3) := by decide +kernel
theorem dX6_isRight_199 : decode cX6_isRight 199 = .ok (.iload_n 3, 1) := by decide +kernel
theorem dX6_isRight_200 : decode cX6_isRight 200 = .ok (.iaload, 1) := by decide +kernel
theorem dX6_isRight_201 : decode cX6_isRight 201 = .ok (.if_icmp .eq 32, 3) := by decide +kernel
theorem dX6_isRight_204 : decode cX6_isRight 204 = .ok (.aload_n 0, 1) := by decide +kernel
theorem dX6_isRight_205 : decode cX6_isRight 205 = .ok (.iload_n 2, 1) := by decide +kernel
theorem dX6_isRight_206 : decode cX6_isRight 206 = .ok (.iload_n 3, 1) := by decide +kernel
theorem dX6_isRight_207 : decode cX6_isRight 207 = .ok (.iconst 2, 1) := by decide +kernel
theorem dX6_isRight_208 : decode cX6_isRight 208 = .ok (.invokevirtual 70, 3) := by decide +kernel
theorem dX6_isRight_211 : decode cX6_isRight 211 = .ok (.ifCond .eq 18, 3) := by decide +kernel
theorem dX6_isRight_214 : decode cX6_isRight 214 = .ok (.aload_n 0, 1) := by decide +kernel
theorem dX6_isRight_215 : decode cX6_isRight 215 = .ok (.getfield 28, 3) := by decide +kernel
theorem dX6_isRight_218 : decode cX6_isRight 218 = .ok (.iload_n 2, 1) := by decide +kernel
theorem dX6_isRight_219 : decode cX6_isRight 219 = .ok (.iaload, 1) := by decide +kernel
theorem dX6_isRight_220 : decode cX6_isRight 220 = .ok (.aload_n 0, 1) := by decide +kernel
theorem dX6_isRight_221 : decode cX6_isRight 221 = .ok (.getfield 28, 3) := by decide +kernel
theorem dX6_isRight_224 : decode cX6_isRight 224 = .ok (.iload_n 3, 1) := by decide +kernel
theorem dX6_isRight_225 : decode cX6_isRight 225 = .ok (.iaload, 1) := by decide +kernel
theorem dX6_isRight_226 : decode cX6_isRight 226 = .ok (.if_icmp .ne 7, 3) := by decide +kernel
theorem dX6_isRight_229 : decode cX6_isRight 229 = .ok (.iconst 1, 1) := by decide +kernel
theorem dX6_isRight_230 : decode cX6_isRight 230 = .ok (.goto 4, 3) := by decide +kernel
theorem dX6_isRight_233 : decode cX6_isRight 233 = .ok (.iconst 0, 1) := by decide +kernel
theorem dX6_isRight_234 : decode cX6_isRight 234 = .ok (.istore_n 1, 1) := by decide +kernel
theorem dX6_isRight_235 : decode cX6_isRight 235 = .ok (.iinc 3 1, 3) := by decide +kernel
theorem dX6_isRight_238 : decode cX6_isRight 238 = .ok (.goto (-86), 3) := by decide +kernel
theorem dX6_isRight_241 : decode cX6_isRight 241 = .ok (.iinc 2 1, 3) := by decide +kernel
theorem dX6_isRight_244 : decode cX6_isRight 244 = .ok (.goto (-102), 3) := by decide +kernel
theorem dX6_isRight_247 : decode cX6_isRight 247 = .ok (.iload_n 1, 1) := by decide +kernel
theorem dX6_isRight_248 : decode cX6_isRight 248 = .ok (.ireturn, 1) := by decide +kernel
theorem dX6_work_0 : decode cX6_work 0 = .ok (.iload_n 1, 1) := by decide +kernel
theorem dX6_work_1 : decode cX6_work 1 = .ok (.iconst 0, 1) := by decide +kernel
theorem dX6_work_2 : decode cX6_work 2 = .ok (.sipush 1000, 3) := by decide +kernel
theorem dX6_work_5 : decode cX6_work 5 = .ok (.invokestatic 60, 3) := by decide +kernel
theorem dX6_work_8 : decode cX6_work 8 = .ok (.ifCond .eq 36, 3) := by decide +kernel
theorem dX6_work_11 : decode cX6_work 11 = .ok (.iload_n 2, 1) := by decide +kernel
theorem dX6_work_12 : decode cX6_work 12 = .ok (.iconst 0, 1) := by decide +kernel
theorem dX6_work_13 : decode cX6_work 13 = .ok (.sipush 1000, 3) := by decide +kernel
theorem dX6_work_16 : decode cX6_work 16 = .ok (.invokestatic 60, 3) := by decide +kernel
theorem dX6_work_19 : decode cX6_work 19 = .ok (.ifCond .eq 25, 3) := by decide +kernel
theorem dX6_work_22 : decode cX6_work 22 = .ok (.iload_n 3, 1) := by decide +kernel
theorem dX6_work_23 : decode cX6_work 23 = .ok (.iconst 0, 1) := by decide +kernel
theorem dX6_work_24 : decode cX6_work 24 = .ok (.iconst 4, 1) := by decide +kernel
theorem dX6_work_25 : decode cX6_work 25 = .ok (.invokestatic 60, 3) := by decide +kernel
theorem dX6_work_28 : decode cX6_work 28 = .ok (.ifCond .eq 16, 3) := by decide +kernel
theorem dX6_work_31 : decode cX6_work 31 = .ok (.aload_n 0, 1) := by decide +kernel
theorem dX6_work_32 : decode cX6_work 32 = .ok (.iload 5, 2) := by decide +kernel
theorem dX6_work_34 : decode cX6_work 34 = .ok (.invokevirtual 73, 3) := by decide +kernel
theorem dX6_work_37 : decode cX6_work 37 = .ok (.ifCond .eq 7, 3) := by decide +kernel
theorem dX6_work_40 : decode cX6_work 40 = .ok (.iconst 1, 1) := by decide +kernel
theorem dX6_work_41 : decode cX6_work 41 = .ok (.goto 4, 3) := by decide +kernel
theorem dX6_work_44 : decode cX6_work 44 = .ok (.iconst 0, 1) := by decide +kernel
theorem dX6_work_45 : decode cX6_work 45 = .ok (.istore 6, 2) := by decide +kernel
theorem dX6_work_47 : decode cX6_work 47 = .ok (.iload 6, 2) := by decide +kernel
theorem dX6_work_49 : decode cX6_work 49 = .ok (.ifCond .eq 41, 3) := by decide +kernel
theorem dX6_work_52 : decode cX6_work 52 = .ok (.iload_n 3, 1) := by decide +kernel
theorem dX6_work_53 : decode cX6_work 53 = .ok (.iconst 1, 1) := by decide +kernel
theorem dX6_work_54 : decode cX6_work 54 = .ok (.if_icmp .eq 8, 3) := by decide +kernel
theorem dX6_work_57 : decode cX6_work 57 = .ok (.iload_n 3, 1) := by decide +kernel
theorem dX6_work_58 : decode cX6_work 58 = .ok (.iconst 2, 1) := by decide +kernel
theorem dX6_work_59 : decode cX6_work 59 = .ok (.if_icmp .ne 13, 3) := by decide +kernel
theorem dX6_work_62 : decode cX6_work 62 = .ok (.iload 4, 2) := by decide +kernel
theorem dX6_work_64 : decode cX6_work 64 = .ok (.iconst 0, 1) := by decide +kernel
theorem dX6_work_65 : decode cX6_work 65 = .ok (.iconst 3, 1) := by decide +kernel
theorem dX6_work_66 : decode cX6_work 66 = .ok (.invokestatic 60, 3) := by decide +kernel
theorem dX6_work_69 : decode cX6_work 69 = .ok (.ifCond .eq 21, 3) := by decide +kernel
theorem dX6_work_72 : decode cX6_work 72 = .ok (.iload_n 3, 1) := by decide +kernel
theorem dX6_work_73 : decode cX6_work 73 = .ok (.iconst 4, 1) := by decide +kernel
theorem dX6_work_74 : decode cX6_work 74 = .ok (.if_icmp .ne 12, 3) := by decide +kernel
theorem dX6_work_77 : decode cX6_work 77 = .ok (.iload 4, 2) := by decide +kernel
theorem dX6_work_79 : decode cX6_work 79 = .ok (.aload_n 0, 1) := by decide +kernel
theorem dX6_work_80 : decode cX6_work 80 = .ok (.getfield 77, 3) := by decide +kernel
theorem dX6_work_83 : decode cX6_work 83 = .ok (.if_icmp .le 7, 3) := by decide +kernel
theorem dX6_work_86 : decode cX6_work 86 = .ok (.iconst 1, 1) := by decide +kernel
theorem dX6_work_87 : decode cX6_work 87 = .ok (.goto 4, 3) := by decide +kernel
theorem dX6_work_90 : decode cX6_work 90 = .ok (.iconst 0, 1) := by decide +kernel
theorem dX6_work_91 : decode cX6_work 91 = .ok (.istore 6, 2) := by decide +kernel
theorem dX6_work_93 : decode cX6_work 93 = .ok (.iload 6, 2) := by decide +kernel
theorem dX6_work_95 : decode cX6_work 95 = .ok (.ifCond .ne 6, 3) := by decide +kernel
theorem dX6_work_98 : decode cX6_work 98 = .ok (.bipush (-2), 2) := by decide +kernel
theorem dX6_work_100 : decode cX6_work 100 = .ok (.ireturn, 1) := by decide +kernel
theorem dX6_work_101 : decode cX6_work 101 = .ok (.aload_n 0, 1) := by decide +kernel
theorem dX6_work_102 : decode cX6_work 102 = .ok (.getfield 67, 3) := by decide +kernel
theorem dX6_work_105 : decode cX6_work 105 = .ok (.bipush 8, 2) := by decide +kernel
theorem dX6_work_107 : decode cX6_work 107 = .ok (.if_icmp .ne 25, 3) := by decide +kernel
theorem dX6_work_110 : decode cX6_work 110 = .ok (.aload_n 0, 1) := by decide +kernel
theorem dX6_work_111 : decode cX6_work 111 = .ok (.iload_n 1, 1) := by decide +kernel
theorem dX6_work_112 : decode cX6_work 112 = .ok (.iload_n 2, 1) := by decide +kernel
theorem dX6_work_113 : decode cX6_work 113 = .ok (.iload_n 3, 1) := by decide +kernel
theorem dX6_work_114 : decode cX6_work 114 = .ok (.iload 4, 2) := by decide +kernel
theorem dX6_work_116 : decode cX6_work 116 = .ok (.iload 5, 2) := by decide +kernel
theorem dX6_work_118 : decode cX6_work 118 = .ok (.invokevirtual 80, 3) := by decide +kernel
theorem dX6_work_121 : decode cX6_work 121 = .ok (.ifCond .eq 8, 3) := by decide +kernel
theorem dX6_work_124 : decode cX6_work 124 = .ok (.bipush (-4), 2) := by decide +kernel
theorem dX6_work_126 : decode cX6_work 126 = .ok (.goto 5, 3) := by decide +kernel
theorem dX6_work_129 : decode cX6_work 129 = .ok (.bipush (-3), 2) := by decide +kernel
theorem dX6_work_131 : decode cX6_work 131 = .ok (.ireturn, 1) := by decide +kernel
theorem dX6_work_132 : decode cX6_work 132 = .ok (.aload_n 0, 1) := by decide +kernel
theorem dX6_work_133 : decode cX6_work 133 = .ok (.getfield 16, 3) := by decide +kernel
theorem dX6_work_136 : decode cX6_work 136 = .ok (.aload_n 0, 1) := by decide +kernel
theorem dX6_work_137 : decode cX6_work 137 = .ok (.getfield 67, 3) := by decide +kernel
theorem dX6_work_140 : decode cX6_work 140 = .ok (.iload_n 1, 1) := by decide +kernel
theorem dX6_work_141 : decode cX6_work 141 = .ok (.iastore, 1) := by decide +kernel
theorem dX6_work_142 : decode cX6_work 142 = .ok (.aload_n 0, 1) := by decide +kernel
theorem dX6_work_143 : decode cX6_work 143 = .ok (.getfield 19, 3) := by decide +kernel
theorem dX6_work_146 : decode cX6_work 146 = .ok (.aload_n 0, 1) := by decide +kernel
theorem dX6_work_147 : decode cX6_work 147 = .ok (.getfield 67, 3) := by decide +kernel
theorem dX6_work_150 : decode cX6_work 150 = .ok (.iload_n 2, 1) := by decide +kernel
theorem dX6_work_151 : decode cX6_work 151 = .ok (.iastore, 1) := by decide +kernel
theorem dX6_work_152 : decode cX6_work 152 = .ok (.aload_n 0, 1) := by decide +kernel
theorem dX6_work_153 : decode cX6_work 153 = .ok (.getfield 22, 3) := by decide +kernel
theorem dX6_work_156 : decode cX6_work 156 = .ok (.aload_n 0, 1) := by decide +kernel
theorem dX6_work_157 : decode cX6_work 157 = .ok (.getfield 67, 3) := by decide +kernel
theorem dX6_work_160 : decode cX6_work 160 = .ok (.iload_n 3, 1) := by decide +kernel
theorem dX6_work_161 : decode cX6_work 161 = .ok (.iastore, 1) := by decide +kernel
theorem dX6_work_162 : decode cX6_work 162 = .ok (.aload_n 0, 1) := by decide +kernel
theorem dX6_work_163 : decode cX6_work 163 = .ok (.getfield 25, 3) := by decide +kernel
theorem dX6_work_166 : decode cX6_work 166 = .ok (.aload_n 0, 1) := by decide +kernel
theorem dX6_work_167 : decode cX6_work 167 = .ok (.getfield 67, 3) := by decide +kernel
theorem dX6_work_170 : decode cX6_work 170 = .ok (.iload 4, 2) := by decide +kernel
theorem dX6_work_172 : decode cX6_work 172 = .ok (.iastore, 1) := by decide +kernel
theorem dX6_work_173 : decode cX6_work 173 = .ok (.aload_n 0, 1) := by decide +kernel
theorem dX6_work_174 : decode cX6_work 174 = .ok (.getfield 28, 3) := by decide +kernel
theorem dX6_work_177 : decode cX6_work 177 = .ok (.aload_n 0, 1) := by decide +kernel
theorem dX6_work_178 : decode cX6_work 178 = .ok (.getfield 67, 3) := by decide +kernel
theorem dX6_work_181 : decode cX6_work 181 = .ok (.iload 5, 2) := by decide +kernel
theorem dX6_work_183 : decode cX6_work 183 = .ok (.iastore, 1) := by decide +kernel
theorem dX6_work_184 : decode cX6_work 184 = .ok (.aload_n 0, 1) := by decide +kernel
theorem dX6_work_185 : decode cX6_work 185 = .ok (.getfield 31, 3) := by decide +kernel
theorem dX6_work_188 : decode cX6_work 188 = .ok (.aload_n 0, 1) := by decide +kernel
theorem dX6_work_189 : decode cX6_work 189 = .ok (.getfield 67, 3) := by decide +kernel
theorem dX6_work_192 : decode cX6_work 192 = .ok (.iconst 0, 1) := by decide +kernel
theorem dX6_work_193 : decode cX6_work 193 = .ok (.bastore, 1) := by decide +kernel
theorem dX6_work_194 : decode cX6_work 194 = .ok (.aload_n 0, 1) := by decide +kernel
theorem dX6_work_195 : decode cX6_work 195 = .ok (.dup, 1) := by decide +kernel
theorem dX6_work_196 : decode cX6_work 196 = .ok (.getfield 67, 3) := by decide +kernel
theorem dX6_work_199 : decode cX6_work 199 = .ok (.iconst 1, 1) := by decide +kernel
theorem dX6_work_200 : decode cX6_work 200 = .ok (.iadd, 1) := by decide +kernel
theorem dX6_work_201 : decode cX6_work 201 = .ok (.putfield 67, 3) := by decide +kernel
theorem dX6_work_204 : decode cX6_work 204 = .ok (.aload_n 0, 1) := by decide +kernel
theorem dX6_work_205 : decode cX6_work 205 = .ok (.invokevirtual 84, 3) := by decide +kernel
theorem dX6_work_208 : decode cX6_work 208 = .ok (.ifCond .ne 16, 3) := by decide +kernel
theorem dX6_work_211 : decode cX6_work 211 = .ok (.aload_n 0, 1) := by decide +kernel
theorem dX6_work_212 : decode cX6_work 212 = .ok (.dup, 1) := by decide +kernel
theorem dX6_work_213 : decode cX6_work 213 = .ok (.getfield 67, 3) := by decide +kernel
theorem dX6_work_216 : decode cX6_work 216 = .ok (.iconst 1, 1) := by decide +kernel
theorem dX6_work_217 : decode cX6_work 217 = .ok (.isub, 1) := by decide +kernel
theorem dX6_work_218 : decode cX6_work 218 = .ok (.putfield 67, 3) := by decide +kernel
theorem dX6_work_221 : decode cX6_work 221 = .ok (.bipush (-3), 2) := by decide +kernel
theorem dX6_work_223 : decode cX6_work 223 = .ok (.ireturn, 1) := by decide +kernel
theorem dX6_work_224 : decode cX6_work 224 = .ok (.aload_n 0, 1) := by decide +kernel
theorem dX6_work_225 : decode cX6_work 225 = .ok (.iconst 0, 1) := by decide +kernel
theorem dX6_work_226 : decode cX6_work 226 = .ok (.putfield 88, 3) := by decide +kernel
theorem dX6_work_229 : decode cX6_work 229 = .ok (.aload_n 0, 1) := by decide +kernel
theorem dX6_work_230 : decode cX6_work 230 = .ok (.getfield 67, 3) := by decide +kernel
theorem dX6_work_233 : decode cX6_work 233 = .ok (.iconst 1, 1) := by decide +kernel
theorem dX6_work_234 : decode cX6_work 234 = .ok (.isub, 1) := by decide +kernel
theorem dX6_work_235 : decode cX6_work 235 = .ok (.ireturn, 1) := by decide +kernel
theorem dX6_fitsNinth_0 : decode cX6_fitsNinth 0 = .ok (.iload_n 1, 1) := by decide +kernel
theorem dX6_fitsNinth_1 : decode cX6_fitsNinth 1 = .ok (.aload_n 0, 1) := by decide +kernel
theorem dX6_fitsNinth_2 : decode cX6_fitsNinth 2 = .ok (.iload 5, 2) := by decide +kernel
theorem dX6_fitsNinth_4 : decode cX6_fitsNinth 4 = .ok (.invokevirtual 92, 3) := by decide +kernel
theorem dX6_fitsNinth_7 : decode cX6_fitsNinth 7 = .ok (.if_icmp .gt 17, 3) := by decide +kernel
theorem dX6_fitsNinth_10 : decode cX6_fitsNinth 10 = .ok (.iload_n 2, 1) := by decide +kernel
theorem dX6_fitsNinth_11 : decode cX6_fitsNinth 11 = .ok (.aload_n 0, 1) := by decide +kernel
theorem dX6_fitsNinth_12 : decode cX6_fitsNinth 12 = .ok (.iload 5, 2) := by decide +kernel
theorem dX6_fitsNinth_14 : decode cX6_fitsNinth 14 = .ok (.invokevirtual 96, 3) := by decide +kernel
theorem dX6_fitsNinth_17 : decode cX6_fitsNinth 17 = .ok (.if_icmp .gt 7, 3) := by decide +kernel
theorem dX6_fitsNinth_20 : decode cX6_fitsNinth 20 = .ok (.iconst 1, 1) := by decide +kernel
theorem dX6_fitsNinth_21 : decode cX6_fitsNinth 21 = .ok (.goto 4, 3) := by decide +kernel
theorem dX6_fitsNinth_24 : decode cX6_fitsNinth 24 = .ok (.iconst 0, 1) := by decide +kernel
theorem dX6_fitsNinth_25 : decode cX6_fitsNinth 25 = .ok (.istore 6, 2) := by decide +kernel
theorem dX6_fitsNinth_27 : decode cX6_fitsNinth 27 = .ok (.iconst 0, 1) := by decide +kernel
theorem dX6_fitsNinth_28 : decode cX6_fitsNinth 28 = .ok (.istore 7, 2) := by decide +kernel
theorem dX6_fitsNinth_30 : decode cX6_fitsNinth 30 = .ok (.iload 7, 2) := by decide +kernel
theorem dX6_fitsNinth_32 : decode cX6_fitsNinth 32 = .ok (.aload_n 0, 1) := by decide +kernel
theorem dX6_fitsNinth_33 : decode cX6_fitsNinth 33 = .ok (.getfield 67, 3) := by decide +kernel
theorem dX6_fitsNinth_36 : decode cX6_fitsNinth 36 = .ok (.if_icmp .ge 105, 3) := by decide +kernel
theorem dX6_fitsNinth_39 : decode cX6_fitsNinth 39 = .ok (.aload_n 0, 1) := by decide +kernel
theorem dX6_fitsNinth_40 : decode cX6_fitsNinth 40 = .ok (.getfield 31, 3) := by decide +kernel
theorem dX6_fitsNinth_43 : decode cX6_fitsNinth 43 = .ok (.iload 7, 2) := by decide +kernel
theorem dX6_fitsNinth_45 : decode cX6_fitsNinth 45 = .ok (.baload, 1) := by decide +kernel
theorem dX6_fitsNinth_46 : decode cX6_fitsNinth 46 = .ok (.ifCond .ne 30, 3) := by decide +kernel
theorem dX6_fitsNinth_49 : decode cX6_fitsNinth 49 = .ok (.aload_n 0, 1) := by decide +kernel
theorem dX6_fitsNinth_50 : decode cX6_fitsNinth 50 = .ok (.getfield 22, 3) := by decide +kernel
theorem dX6_fitsNinth_53 : decode cX6_fitsNinth 53 = .ok (.iload 7, 2) := by decide +kernel
theorem dX6_fitsNinth_55 : decode cX6_fitsNinth 55 = .ok (.iaload, 1) := by decide +kernel
theorem dX6_fitsNinth_56 : decode cX6_fitsNinth 56 = .ok (.iload_n 3, 1) := by decide +kernel
theorem dX6_fitsNinth_57 : decode cX6_fitsNinth 57 = .ok (.if_icmp .ne 19, 3) := by decide +kernel
theorem dX6_fitsNinth_60 : decode cX6_fitsNinth 60 = .ok (.aload_n 0, 1) := by decide +kernel
theorem dX6_fitsNinth_61 : decode cX6_fitsNinth 61 = .ok (.getfield 25, 3) := by decide +kernel
theorem dX6_fitsNinth_64 : decode cX6_fitsNinth 64 = .ok (.iload 7, 2) := by decide +kernel
theorem dX6_fitsNinth_66 : decode cX6_fitsNinth 66 = .ok (.iaload, 1) := by decide +kernel
theorem dX6_fitsNinth_67 : decode cX6_fitsNinth 67 = .ok (.iload 4, 2) := by decide +kernel
theorem dX6_fitsNinth_69 : decode cX6_fitsNinth 69 = .ok (.if_icmp .ne 7, 3) := by decide +kernel
theorem dX6_fitsNinth_72 : decode cX6_fitsNinth 72 = .ok (.iconst 1, 1) := by decide +kernel
theorem dX6_fitsNinth_73 : decode cX6_fitsNinth 73 = .ok (.goto 4, 3) := by decide +kernel
theorem dX6_fitsNinth_76 : decode cX6_fitsNinth 76 = .ok (.iconst 0, 1) := by decide +kernel
theorem dX6_fitsNinth_77 : decode cX6_fitsNinth 77 = .ok (.istore 8, 2) := by decide +kernel
theorem dX6_fitsNinth_79 : decode cX6_fitsNinth 79 = .ok (.iload 6, 2) := by decide +kernel
theorem dX6_fitsNinth_81 : decode cX6_fitsNinth 81 = .ok (.ifCond .eq 51, 3) := by decide +kernel
theorem dX6_fitsNinth_84 : decode cX6_fitsNinth 84 = .ok (.iload 8, 2) := by decide +kernel
theorem dX6_fitsNinth_86 : decode cX6_fitsNinth 86 = .ok (.ifCond .eq 20, 3) := by decide +kernel
theorem dX6_fitsNinth_89 : decode cX6_fitsNinth 89 = .ok (.iload_n 3, 1) := by decide +kernel
theorem dX6_fitsNinth_90 : decode cX6_fitsNinth 90 = .ok (.iconst 1, 1) := by decide +kernel
theorem dX6_fitsNinth_91 : decode cX6_fitsNinth 91 = .ok (.if_icmp .ne 15, 3) := by decide +kernel
theorem dX6_fitsNinth_94 : decode cX6_fitsNinth 94 = .ok (.aload_n 0, 1) := by decide +kernel
theorem dX6_fitsNinth_95 : decode cX6_fitsNinth 95 = .ok (.getfield 28, 3) := by decide +kernel
theorem dX6_fitsNinth_98 : decode cX6_fitsNinth 98 = .ok (.iload 7, 2) := by decide +kernel
theorem dX6_fitsNinth_100 : decode cX6_fitsNinth 100 = .ok (.iaload, 1) := by decide +kernel
theorem dX6_fitsNinth_101 : decode cX6_fitsNinth 101 = .ok (.iload 5, 2) := by decide +kernel
theorem dX6_fitsNinth_103 : decode cX6_fitsNinth 103 = .ok (.if_icmp .eq 29, 3) := by decide +kernel
theorem dX6_fitsNinth_106 : decode cX6_fitsNinth 106 = .ok (.iload 8, 2) := by decide +kernel
theorem dX6_fitsNinth_108 : decode cX6_fitsNinth 108 = .ok (.ifCond .eq 20, 3) := by decide +kernel
theorem dX6_fitsNinth_111 : decode cX6_fitsNinth 111 = .ok (.iload_n 3, 1) := by decide +kernel
theorem dX6_fitsNinth_112 : decode cX6_fitsNinth 112 = .ok (.iconst 2, 1) := by decide +kernel
theorem dX6_fitsNinth_113 : decode cX6_fitsNinth 113 = .ok (.if_icmp .ne 15, 3) := by decide +kernel
theorem dX6_fitsNinth_116 : decode cX6_fitsNinth 116 = .ok (.aload_n 0, 1) := by decide +kernel
theorem dX6_fitsNinth_117 : decode cX6_fitsNinth 117 = .ok (.getfield 28, 3) := by decide +kernel
theorem dX6_fitsNinth_120 : decode cX6_fitsNinth 120 = .ok (.iload 7, 2) := by decide +kernel
theorem dX6_fitsNinth_122 : decode cX6_fitsNinth 122 = .ok (.iaload, 1) := by decide +kernel
theorem dX6_fitsNinth_123 : decode cX6_fitsNinth 123 = .ok (.iload 5, 2) := by decide +kernel
theorem dX6_fitsNinth_125 : decode cX6_fitsNinth 125 = .ok (.if_icmp .ne 7, 3) := by decide +kernel
theorem dX6_fitsNinth_128 : decode cX6_fitsNinth 128 = .ok (.iconst 1, 1) := by decide +kernel
theorem dX6_fitsNinth_129 : decode cX6_fitsNinth 129 = .ok (.goto 4, 3) := by decide +kernel
theorem dX6_fitsNinth_132 : decode cX6_fitsNinth 132 = .ok (.iconst 0, 1) := by decide +kernel
theorem dX6_fitsNinth_133 : decode cX6_fitsNinth 133 = .ok (.istore 6, 2) := by decide +kernel
theorem dX6_fitsNinth_135 : decode cX6_fitsNinth 135 = .ok (.iinc 7 1, 3) := by decide +kernel
theorem dX6_fitsNinth_138 : decode cX6_fitsNinth 138 = .ok (.goto (-108), 3) := by decide +kernel
theorem dX6_fitsNinth_141 : decode cX6_fitsNinth 141 = .ok (.iload 6, 2) := by decide +kernel
theorem dX6_fitsNinth_143 : decode cX6_fitsNinth 143 = .ok (.ireturn, 1) := by decide +kernel
theorem dX6_freeA_0 : decode cX6_freeA 0 = .ok (.aload_n 0, 1) := by decide +kernel
theorem dX6_freeA_1 : decode cX6_freeA 1 = .ok (.getfield 7, 3) := by decide +kernel
theorem dX6_freeA_4 : decode cX6_freeA 4 = .ok (.iload_n 1, 1) := by decide +kernel
theorem dX6_freeA_5 : decode cX6_freeA 5 = .ok (.iaload, 1) := by decide +kernel
theorem dX6_freeA_6 : decode cX6_freeA 6 = .ok (.istore_n 2, 1) := by decide +kernel
theorem dX6_freeA_7 : decode cX6_freeA 7 = .ok (.iconst 0, 1) := by decide +kernel
theorem dX6_freeA_8 : decode cX6_freeA 8 = .ok (.istore_n 3, 1) := by decide +kernel
theorem dX6_freeA_9 : decode cX6_freeA 9 = .ok (.iload_n 3, 1) := by decide +kernel
theorem dX6_freeA_10 : decode cX6_freeA 10 = .ok (.aload_n 0, 1) := by decide +kernel
theorem dX6_freeA_11 : decode cX6_freeA 11 = .ok (.getfield 67, 3) := by decide +kernel
theorem dX6_freeA_14 : decode cX6_freeA 14 = .ok (.if_icmp .ge 41, 3) := by decide +kernel
theorem dX6_freeA_17 : decode cX6_freeA 17 = .ok (.iload_n 2, 1) := by decide +kernel
theorem dX6_freeA_18 : decode cX6_freeA 18 = .ok (.aload_n 0, 1) := by decide +kernel
theorem dX6_freeA_19 : decode cX6_freeA 19 = .ok (.getfield 31, 3) := by decide +kernel
theorem dX6_freeA_22 : decode cX6_freeA 22 = .ok (.iload_n 3, 1) := by decide +kernel
theorem dX6_freeA_23 : decode cX6_freeA 23 = .ok (.baload, 1) := by decide +kernel
theorem dX6_freeA_24 : decode cX6_freeA 24 = .ok (.ifCond .ne 22, 3) := by decide +kernel
theorem dX6_freeA_27 : decode cX6_freeA 27 = .ok (.aload_n 0, 1) := by decide +kernel
theorem dX6_freeA_28 : decode cX6_freeA 28 = .ok (.getfield 28, 3) := by decide +kernel
theorem dX6_freeA_31 : decode cX6_freeA 31 = .ok (.iload_n 3, 1) := by decide +kernel
theorem dX6_freeA_32 : decode cX6_freeA 32 = .ok (.iaload, 1) := by decide +kernel
theorem dX6_freeA_33 : decode cX6_freeA 33 = .ok (.iload_n 1, 1) := by decide +kernel
theorem dX6_freeA_34 : decode cX6_freeA 34 = .ok (.if_icmp .ne 12, 3) := by decide +kernel
theorem dX6_freeA_37 : decode cX6_freeA 37 = .ok (.aload_n 0, 1) := by decide +kernel
theorem dX6_freeA_38 : decode cX6_freeA 38 = .ok (.getfield 16, 3) := by decide +kernel
theorem dX6_freeA_41 : decode cX6_freeA 41 = .ok (.iload_n 3, 1) := by decide +kernel
theorem dX6_freeA_42 : decode cX6_freeA 42 = .ok (.iaload, 1) := by decide +kernel
theorem dX6_freeA_43 : decode cX6_freeA 43 = .ok (.goto 4, 3) := by decide +kernel
theorem dX6_freeA_46 : decode cX6_freeA 46 = .ok (.iconst 0, 1) := by decide +kernel
theorem dX6_freeA_47 : decode cX6_freeA 47 = .ok (.isub, 1) := by decide +kernel
theorem dX6_freeA_48 : decode cX6_freeA 48 = .ok (.istore_n 2, 1) := by decide +kernel
theorem dX6_freeA_49 : decode cX6_freeA 49 = .ok (.iinc 3 1, 3) := by decide +kernel
theorem dX6_freeA_52 : decode cX6_freeA 52 = .ok (.goto (-43), 3) := by decide +kernel
theorem dX6_freeA_55 : decode cX6_freeA 55 = .ok (.iload_n 2, 1) := by decide +kernel
theorem dX6_freeA_56 : decode cX6_freeA 56 = .ok (.ireturn, 1) := by decide +kernel
theorem dX6_freeB_0 : decode cX6_freeB 0 = .ok (.aload_n 0, 1) := by decide +kernel
theorem dX6_freeB_1 : decode cX6_freeB 1 = .ok (.getfield 13, 3) := by decide +kernel
theorem dX6_freeB_4 : decode cX6_freeB 4 = .ok (.iload_n 1, 1) := by decide +kernel
theorem dX6_freeB_5 : decode cX6_freeB 5 = .ok (.iaload, 1) := by decide +kernel
theorem dX6_freeB_6 : decode cX6_freeB 6 = .ok (.istore_n 2, 1) := by decide +kernel
theorem dX6_freeB_7 : decode cX6_freeB 7 = .ok (.iconst 0, 1) := by decide +kernel
theorem dX6_freeB_8 : decode cX6_freeB 8 = .ok (.istore_n 3, 1) := by decide +kernel
theorem dX6_freeB_9 : decode cX6_freeB 9 = .ok (.iload_n 3, 1) := by decide +kernel
theorem dX6_freeB_10 : decode cX6_freeB 10 = .ok (.aload_n 0, 1) := by decide +kernel
theorem dX6_freeB_11 : decode cX6_freeB 11 = .ok (.getfield 67, 3) := by decide +kernel
theorem dX6_freeB_14 : decode cX6_freeB 14 = .ok (.if_icmp .ge 41, 3) := by decide +kernel
theorem dX6_freeB_17 : decode cX6_freeB 17 = .ok (.iload_n 2, 1) := by decide +kernel
theorem dX6_freeB_18 : decode cX6_freeB 18 = .ok (.aload_n 0, 1) := by decide +kernel
theorem dX6_freeB_19 : decode cX6_freeB 19 = .ok (.getfield 31, 3) := by decide +kernel
theorem dX6_freeB_22 : decode cX6_freeB 22 = .ok (.iload_n 3, 1) := by decide +kernel
theorem dX6_freeB_23 : decode cX6_freeB 23 = .ok (.baload, 1) := by decide +kernel
theorem dX6_freeB_24 : decode cX6_freeB 24 = .ok (.ifCond .ne 22, 3) := by decide +kernel
theorem dX6_freeB_27 : decode cX6_freeB 27 = .ok (.aload_n 0, 1) := by decide +kernel
theorem dX6_freeB_28 : decode cX6_freeB 28 = .ok (.getfield 28, 3) := by decide +kernel
theorem dX6_freeB_31 : decode cX6_freeB 31 = .ok (.iload_n 3, 1) := by decide +kernel
theorem dX6_freeB_32 : decode cX6_freeB 32 = .ok (.iaload, 1) := by decide +kernel
theorem dX6_freeB_33 : decode cX6_freeB 33 = .ok (.iload_n 1, 1) := by decide +kernel
theorem dX6_freeB_34 : decode cX6_freeB 34 = .ok (.if_icmp .ne 12, 3) := by decide +kernel
theorem dX6_freeB_37 : decode cX6_freeB 37 = .ok (.aload_n 0, 1) := by decide +kernel
theorem dX6_freeB_38 : decode cX6_freeB 38 = .ok (.getfield 19, 3) := by decide +kernel
theorem dX6_freeB_41 : decode cX6_freeB 41 = .ok (.iload_n 3, 1) := by decide +kernel
theorem dX6_freeB_42 : decode cX6_freeB 42 = .ok (.iaload, 1) := by decide +kernel
theorem dX6_freeB_43 : decode cX6_freeB 43 = .ok (.goto 4, 3) := by decide +kernel
theorem dX6_freeB_46 : decode cX6_freeB 46 = .ok (.iconst 0, 1) := by decide +kernel
theorem dX6_freeB_47 : decode cX6_freeB 47 = .ok (.isub, 1) := by decide +kernel
theorem dX6_freeB_48 : decode cX6_freeB 48 = .ok (.istore_n 2, 1) := by decide +kernel
theorem dX6_freeB_49 : decode cX6_freeB 49 = .ok (.iinc 3 1, 3) := by decide +kernel
theorem dX6_freeB_52 : decode cX6_freeB 52 = .ok (.goto (-43), 3) := by decide +kernel
theorem dX6_freeB_55 : decode cX6_freeB 55 = .ok (.iload_n 2, 1) := by decide +kernel
theorem dX6_freeB_56 : decode cX6_freeB 56 = .ok (.ireturn, 1) := by decide +kernel
theorem dX6_many_0 : decode cX6_many 0 = .ok (.iconst 0, 1) := by decide +kernel
theorem dX6_many_1 : decode cX6_many 1 = .ok (.istore_n 2, 1) := by decide +kernel
theorem dX6_many_2 : decode cX6_many 2 = .ok (.iconst 0, 1) := by decide +kernel
theorem dX6_many_3 : decode cX6_many 3 = .ok (.istore_n 3, 1) := by decide +kernel
theorem dX6_many_4 : decode cX6_many 4 = .ok (.iload_n 3, 1) := by decide +kernel
theorem dX6_many_5 : decode cX6_many 5 = .ok (.aload_n 0, 1) := by decide +kernel
theorem dX6_many_6 : decode cX6_many 6 = .ok (.getfield 67, 3) := by decide +kernel
theorem dX6_many_9 : decode cX6_many 9 = .ok (.if_icmp .ge 36, 3) := by decide +kernel
theorem dX6_many_12 : decode cX6_many 12 = .ok (.iload_n 2, 1) := by decide +kernel
theorem dX6_many_13 : decode cX6_many 13 = .ok (.aload_n 0, 1) := by decide +kernel
theorem dX6_many_14 : decode cX6_many 14 = .ok (.getfield 31, 3) := by decide +kernel
theorem dX6_many_17 : decode cX6_many 17 = .ok (.iload_n 3, 1) := by decide +kernel
theorem dX6_many_18 : decode cX6_many 18 = .ok (.baload, 1) := by decide +kernel
theorem dX6_many_19 : decode cX6_many 19 = .ok (.ifCond .ne 17, 3) := by decide +kernel
theorem dX6_many_22 : decode cX6_many 22 = .ok (.aload_n 0, 1) := by decide +kernel
theorem dX6_many_23 : decode cX6_many 23 = .ok (.getfield 28, 3) := by decide +kernel
theorem dX6_many_26 : decode cX6_many 26 = .ok (.iload_n 3, 1) := by decide +kernel
theorem dX6_many_27 : decode cX6_many 27 = .ok (.iaload, 1) := by decide +kernel
theorem dX6_many_28 : decode cX6_many 28 = .ok (.iload_n 1, 1) := by decide +kernel
theorem dX6_many_29 : decode cX6_many 29 = .ok (.if_icmp .ne 7, 3) := by decide +kernel
theorem dX6_many_32 : decode cX6_many 32 = .ok (.iconst 1, 1) := by decide +kernel
theorem dX6_many_33 : decode cX6_many 33 = .ok (.goto 4, 3) := by decide +kernel
theorem dX6_many_36 : decode cX6_many 36 = .ok (.iconst 0, 1) := by decide +kernel
theorem dX6_many_37 : decode cX6_many 37 = .ok (.iadd, 1) := by decide +kernel
theorem dX6_many_38 : decode cX6_many 38 = .ok (.istore_n 2, 1) := by decide +kernel
theorem dX6_many_39 : decode cX6_many 39 = .ok (.iinc 3 1, 3) := by decide +kernel
theorem dX6_many_42 : decode cX6_many 42 = .ok (.goto (-38), 3) := by decide +kernel
theorem dX6_many_45 : decode cX6_many 45 = .ok (.iload_n 2, 1) := by decide +kernel
theorem dX6_many_46 : decode cX6_many 46 = .ok (.ireturn, 1) := by decide +kernel
theorem dX6_blockOf_0 : decode cX6_blockOf 0 = .ok (.iconst 0, 1) := by decide +kernel
theorem dX6_blockOf_1 : decode cX6_blockOf 1 = .ok (.istore_n 2, 1) := by decide +kernel
theorem dX6_blockOf_2 : decode cX6_blockOf 2 = .ok (.iload_n 2, 1) := by decide +kernel
theorem dX6_blockOf_3 : decode cX6_blockOf 3 = .ok (.iload_n 1, 1) := by decide +kernel
theorem dX6_blockOf_4 : decode cX6_blockOf 4 = .ok (.if_icmp .ge 28, 3) := by decide +kernel
theorem dX6_blockOf_7 : decode cX6_blockOf 7 = .ok (.aload_n 0, 1) := by decide +kernel
theorem dX6_blockOf_8 : decode cX6_blockOf 8 = .ok (.getfield 31, 3) := by decide +kernel
theorem dX6_blockOf_11 : decode cX6_blockOf 11 = .ok (.iload_n 2, 1) := by decide +kernel
theorem dX6_blockOf_12 : decode cX6_blockOf 12 = .ok (.baload, 1) := by decide +kernel
theorem dX6_blockOf_13 : decode cX6_blockOf 13 = .ok (.ifCond .ne 13, 3) := by decide +kernel
theorem dX6_blockOf_16 : decode cX6_blockOf 16 = .ok (.aload_n 0, 1) := by decide +kernel
theorem dX6_blockOf_17 : decode cX6_blockOf 17 = .ok (.iload_n 1, 1) := by decide +kernel
theorem dX6_blockOf_18 : decode cX6_blockOf 18 = .ok (.iload_n 2, 1) := by decide +kernel
theorem dX6_blockOf_19 : decode cX6_blockOf 19 = .ok (.iconst 2, 1) := by decide +kernel
theorem dX6_blockOf_20 : decode cX6_blockOf 20 = .ok (.invokevirtual 70, 3) := by decide +kernel
theorem dX6_blockOf_23 : decode cX6_blockOf 23 = .ok (.ifCond .ne 9, 3) := by decide +kernel
theorem dX6_blockOf_26 : decode cX6_blockOf 26 = .ok (.iinc 2 1, 3) := by decide +kernel
theorem dX6_blockOf_29 : decode cX6_blockOf 29 = .ok (.goto (-27), 3) := by decide +kernel
theorem dX6_blockOf_32 : decode cX6_blockOf 32 = .ok (.iload_n 2, 1) := by decide +kernel
theorem dX6_blockOf_33 : decode cX6_blockOf 33 = .ok (.ireturn, 1) := by decide +kernel
theorem dX6_isBlock_0 : decode cX6_isBlock 0 = .ok (.iload_n 1, 1) := by decide +kernel
theorem dX6_isBlock_1 : decode cX6_isBlock 1 = .ok (.iconst 0, 1) := by decide +kernel
theorem dX6_isBlock_2 : decode cX6_isBlock 2 = .ok (.aload_n 0, 1) := by decide +kernel
theorem dX6_isBlock_3 : decode cX6_isBlock 3 = .ok (.getfield 67, 3) := by decide +kernel
theorem dX6_isBlock_6 : decode cX6_isBlock 6 = .ok (.iconst 1, 1) := by decide +kernel
theorem dX6_isBlock_7 : decode cX6_isBlock 7 = .ok (.isub, 1) := by decide +kernel
theorem dX6_isBlock_8 : decode cX6_isBlock 8 = .ok (.invokestatic 60, 3) := by decide +kernel
theorem dX6_isBlock_11 : decode cX6_isBlock 11 = .ok (.ifCond .eq 25, 3) := by decide +kernel
theorem dX6_isBlock_14 : decode cX6_isBlock 14 = .ok (.aload_n 0, 1) := by decide +kernel
theorem dX6_isBlock_15 : decode cX6_isBlock 15 = .ok (.getfield 31, 3) := by decide +kernel
theorem dX6_isBlock_18 : decode cX6_isBlock 18 = .ok (.iload_n 1, 1) := by decide +kernel
theorem dX6_isBlock_19 : decode cX6_isBlock 19 = .ok (.baload, 1) := by decide +kernel
theorem dX6_isBlock_20 : decode cX6_isBlock 20 = .ok (.ifCond .ne 16, 3) := by decide +kernel
theorem dX6_isBlock_23 : decode cX6_isBlock 23 = .ok (.aload_n 0, 1) := by decide +kernel
theorem dX6_isBlock_24 : decode cX6_isBlock 24 = .ok (.iload_n 1, 1) := by decide +kernel
theorem dX6_isBlock_25 : decode cX6_isBlock 25 = .ok (.invokevirtual 99, 3) := by decide +kernel
theorem dX6_isBlock_28 : decode cX6_isBlock 28 = .ok (.iload_n 1, 1) := by decide +kernel
theorem dX6_isBlock_29 : decode cX6_isBlock 29 = .ok (.if_icmp .ne 7, 3) := by decide +kernel
theorem dX6_isBlock_32 : decode cX6_isBlock 32 = .ok (.iconst 1, 1) := by decide +kernel
theorem dX6_isBlock_33 : decode cX6_isBlock 33 = .ok (.goto 4, 3) := by decide +kernel
theorem dX6_isBlock_36 : decode cX6_isBlock 36 = .ok (.iconst 0, 1) := by decide +kernel
theorem dX6_isBlock_37 : decode cX6_isBlock 37 = .ok (.ireturn, 1) := by decide +kernel
theorem dX6_isOf_0 : decode cX6_isOf 0 = .ok (.aload_n 0, 1) := by decide +kernel
theorem dX6_isOf_1 : decode cX6_isOf 1 = .ok (.getfield 31, 3) := by decide +kernel
theorem dX6_isOf_4 : decode cX6_isOf 4 = .ok (.iload_n 1, 1) := by decide +kernel
theorem dX6_isOf_5 : decode cX6_isOf 5 = .ok (.baload, 1) := by decide +kernel
theorem dX6_isOf_6 : decode cX6_isOf 6 = .ok (.ifCond .ne 16, 3) := by decide +kernel
theorem dX6_isOf_9 : decode cX6_isOf 9 = .ok (.aload_n 0, 1) := by decide +kernel
theorem dX6_isOf_10 : decode cX6_isOf 10 = .ok (.iload_n 1, 1) := by decide +kernel
theorem dX6_isOf_11 : decode cX6_isOf 11 = .ok (.invokevirtual 99, 3) := by decide +kernel
theorem dX6_isOf_14 : decode cX6_isOf 14 = .ok (.iload_n 2, 1) := by decide +kernel
theorem dX6_isOf_15 : decode cX6_isOf 15 = .ok (.if_icmp .ne 7, 3) := by decide +kernel
theorem dX6_isOf_18 : decode cX6_isOf 18 = .ok (.iconst 1, 1) := by decide +kernel
theorem dX6_isOf_19 : decode cX6_isOf 19 = .ok (.goto 4, 3) := by decide +kernel
theorem dX6_isOf_22 : decode cX6_isOf 22 = .ok (.iconst 0, 1) := by decide +kernel
theorem dX6_isOf_23 : decode cX6_isOf 23 = .ok (.ireturn, 1) := by decide +kernel
theorem dX6_costOf_0 : decode cX6_costOf 0 = .ok (.iconst 0, 1) := by decide +kernel
theorem dX6_costOf_1 : decode cX6_costOf 1 = .ok (.istore_n 2, 1) := by decide +kernel
theorem dX6_costOf_2 : decode cX6_costOf 2 = .ok (.iconst 0, 1) := by decide +kernel
theorem dX6_costOf_3 : decode cX6_costOf 3 = .ok (.istore_n 3, 1) := by decide +kernel
theorem dX6_costOf_4 : decode cX6_costOf 4 = .ok (.iload_n 3, 1) := by decide +kernel
theorem dX6_costOf_5 : decode cX6_costOf 5 = .ok (.aload_n 0, 1) := by decide +kernel
theorem dX6_costOf_6 : decode cX6_costOf 6 = .ok (.getfield 67, 3) := by decide +kernel
theorem dX6_costOf_9 : decode cX6_costOf 9 = .ok (.if_icmp .ge 38, 3) := by decide +kernel
theorem dX6_costOf_12 : decode cX6_costOf 12 = .ok (.iload_n 2, 1) := by decide +kernel
theorem dX6_costOf_13 : decode cX6_costOf 13 = .ok (.aload_n 0, 1) := by decide +kernel
theorem dX6_costOf_14 : decode cX6_costOf 14 = .ok (.iload_n 3, 1) := by decide +kernel
theorem dX6_costOf_15 : decode cX6_costOf 15 = .ok (.iload_n 1, 1) := by decide +kernel
theorem dX6_costOf_16 : decode cX6_costOf 16 = .ok (.invokevirtual 102, 3) := by decide +kernel
theorem dX6_costOf_19 : decode cX6_costOf 19 = .ok (.ifCond .eq 19, 3) := by decide +kernel
theorem dX6_costOf_22 : decode cX6_costOf 22 = .ok (.aload_n 0, 1) := by decide +kernel
theorem dX6_costOf_23 : decode cX6_costOf 23 = .ok (.getfield 16, 3) := by decide +kernel
theorem dX6_costOf_26 : decode cX6_costOf 26 = .ok (.iload_n 3, 1) := by decide +kernel
theorem dX6_costOf_27 : decode cX6_costOf 27 = .ok (.iaload, 1) := by decide +kernel
theorem dX6_costOf_28 : decode cX6_costOf 28 = .ok (.aload_n 0, 1) := by decide +kernel
theorem dX6_costOf_29 : decode cX6_costOf 29 = .ok (.getfield 19, 3) := by decide +kernel
theorem dX6_costOf_32 : decode cX6_costOf 32 = .ok (.iload_n 3, 1) := by decide +kernel
theorem dX6_costOf_33 : decode cX6_costOf 33 = .ok (.iaload, 1) := by decide +kernel
theorem dX6_costOf_34 : decode cX6_costOf 34 = .ok (.iadd, 1) := by decide +kernel
theorem dX6_costOf_35 : decode cX6_costOf 35 = .ok (.goto 4, 3) := by decide +kernel
theorem dX6_costOf_38 : decode cX6_costOf 38 = .ok (.iconst 0, 1) := by decide +kernel
theorem dX6_costOf_39 : decode cX6_costOf 39 = .ok (.iadd, 1) := by decide +kernel
theorem dX6_costOf_40 : decode cX6_costOf 40 = .ok (.istore_n 2, 1) := by decide +kernel
theorem dX6_costOf_41 : decode cX6_costOf 41 = .ok (.iinc 3 1, 3) := by decide +kernel
theorem dX6_costOf_44 : decode cX6_costOf 44 = .ok (.goto (-40), 3) := by decide +kernel
theorem dX6_costOf_47 : decode cX6_costOf 47 = .ok (.iload_n 2, 1) := by decide +kernel
theorem dX6_costOf_48 : decode cX6_costOf 48 = .ok (.ireturn, 1) := by decide +kernel
theorem dX6_price_0 : decode cX6_price 0 = .ok (.iload_n 1, 1) := by decide +kernel
theorem dX6_price_1 : decode cX6_price 1 = .ok (.iconst 0, 1) := by decide +kernel
theorem dX6_price_2 : decode cX6_price 2 = .ok (.sipush 1000, 3) := by decide +kernel
theorem dX6_price_5 : decode cX6_price 5 = .ok (.invokestatic 60, 3) := by decide +kernel
theorem dX6_price_8 : decode cX6_price 8 = .ok (.ifCond .ne 6, 3) := by decide +kernel
theorem dX6_price_11 : decode cX6_price 11 = .ok (.bipush (-2), 2) := by decide +kernel
theorem dX6_price_13 : decode cX6_price 13 = .ok (.ireturn, 1) := by decide +kernel
theorem dX6_price_14 : decode cX6_price 14 = .ok (.aload_n 0, 1) := by decide +kernel
theorem dX6_price_15 : decode cX6_price 15 = .ok (.getfield 35, 3) := by decide +kernel
theorem dX6_price_18 : decode cX6_price 18 = .ok (.istore_n 2, 1) := by decide +kernel
theorem dX6_price_19 : decode cX6_price 19 = .ok (.aload_n 0, 1) := by decide +kernel
theorem dX6_price_20 : decode cX6_price 20 = .ok (.iload_n 1, 1) := by decide +kernel
theorem dX6_price_21 : decode cX6_price 21 = .ok (.putfield 35, 3) := by decide +kernel
theorem dX6_price_24 : decode cX6_price 24 = .ok (.iload_n 2, 1) := by decide +kernel
theorem dX6_price_25 : decode cX6_price 25 = .ok (.ireturn, 1) := by decide +kernel
theorem dX6_about_0 : decode cX6_about 0 = .ok (.iload_n 1, 1) := by decide +kernel
theorem dX6_about_1 : decode cX6_about 1 = .ok (.iconst 0, 1) := by decide +kernel
theorem dX6_about_2 : decode cX6_about 2 = .ok (.aload_n 0, 1) := by decide +kernel
theorem dX6_about_3 : decode cX6_about 3 = .ok (.getfield 67, 3) := by decide +kernel
theorem dX6_about_6 : decode cX6_about 6 = .ok (.iconst 1, 1) := by decide +kernel
theorem dX6_about_7 : decode cX6_about 7 = .ok (.isub, 1) := by decide +kernel
theorem dX6_about_8 : decode cX6_about 8 = .ok (.invokestatic 60, 3) := by decide +kernel
theorem dX6_about_11 : decode cX6_about 11 = .ok (.ifCond .eq 12, 3) := by decide +kernel
theorem dX6_about_14 : decode cX6_about 14 = .ok (.iload_n 2, 1) := by decide +kernel
theorem dX6_about_15 : decode cX6_about 15 = .ok (.iconst 0, 1) := by decide +kernel
theorem dX6_about_16 : decode cX6_about 16 = .ok (.iconst 5, 1) := by decide +kernel
theorem dX6_about_17 : decode cX6_about 17 = .ok (.invokestatic 60, 3) := by decide +kernel
theorem dX6_about_20 : decode cX6_about 20 = .ok (.ifCond .ne 6, 3) := by decide +kernel
theorem dX6_about_23 : decode cX6_about 23 = .ok (.bipush (-2), 2) := by decide +kernel
theorem dX6_about_25 : decode cX6_about 25 = .ok (.ireturn, 1) := by decide +kernel
theorem dX6_about_26 : decode cX6_about 26 = .ok (.iload_n 2, 1) := by decide +kernel
theorem dX6_about_27 : decode cX6_about 27 = .ok (.tableswitch 93 0 4 #[33, 53, 60, 67, 74], 33) := by decide +kernel
theorem dX6_about_60 : decode cX6_about 60 = .ok (.aload_n 0, 1) := by decide +kernel
theorem dX6_about_61 : decode cX6_about 61 = .ok (.getfield 31, 3) := by decide +kernel
theorem dX6_about_64 : decode cX6_about 64 = .ok (.iload_n 1, 1) := by decide +kernel
theorem dX6_about_65 : decode cX6_about 65 = .ok (.baload, 1) := by decide +kernel
theorem dX6_about_66 : decode cX6_about 66 = .ok (.ifCond .eq 7, 3) := by decide +kernel
theorem dX6_about_69 : decode cX6_about 69 = .ok (.iconst (-1), 1) := by decide +kernel
theorem dX6_about_70 : decode cX6_about 70 = .ok (.goto 9, 3) := by decide +kernel
theorem dX6_about_73 : decode cX6_about 73 = .ok (.aload_n 0, 1) := by decide +kernel
theorem dX6_about_74 : decode cX6_about 74 = .ok (.getfield 28, 3) := by decide +kernel
theorem dX6_about_77 : decode cX6_about 77 = .ok (.iload_n 1, 1) := by decide +kernel
theorem dX6_about_78 : decode cX6_about 78 = .ok (.iaload, 1) := by decide +kernel
theorem dX6_about_79 : decode cX6_about 79 = .ok (.ireturn, 1) := by decide +kernel
theorem dX6_about_80 : decode cX6_about 80 = .ok (.aload_n 0, 1) := by decide +kernel
theorem dX6_about_81 : decode cX6_about 81 = .ok (.getfield 16, 3) := by decide +kernel
theorem dX6_about_84 : decode cX6_about 84 = .ok (.iload_n 1, 1) := by decide +kernel
theorem dX6_about_85 : decode cX6_about 85 = .ok (.iaload, 1) := by decide +kernel
theorem dX6_about_86 : decode cX6_about 86 = .ok (.ireturn, 1) := by decide +kernel
theorem dX6_about_87 : decode cX6_about 87 = .ok (.aload_n 0, 1) := by decide +kernel
theorem dX6_about_88 : decode cX6_about 88 = .ok (.getfield 19, 3) := by decide +kernel
theorem dX6_about_91 : decode cX6_about 91 = .ok (.iload_n 1, 1) := by decide +kernel
theorem dX6_about_92 : decode cX6_about 92 = .ok (.iaload, 1) := by decide +kernel
theorem dX6_about_93 : decode cX6_about 93 = .ok (.ireturn, 1) := by decide +kernel
theorem dX6_about_94 : decode cX6_about 94 = .ok (.aload_n 0, 1) := by decide +kernel
theorem dX6_about_95 : decode cX6_about 95 = .ok (.getfield 22, 3) := by decide +kernel
theorem dX6_about_98 : decode cX6_about 98 = .ok (.iload_n 1, 1) := by decide +kernel
theorem dX6_about_99 : decode cX6_about 99 = .ok (.iaload, 1) := by decide +kernel
theorem dX6_about_100 : decode cX6_about 100 = .ok (.ireturn, 1) := by decide +kernel
theorem dX6_about_101 : decode cX6_about 101 = .ok (.aload_n 0, 1) := by decide +kernel
theorem dX6_about_102 : decode cX6_about 102 = .ok (.getfield 31, 3) := by decide +kernel
theorem dX6_about_105 : decode cX6_about 105 = .ok (.iload_n 1, 1) := by decide +kernel
theorem dX6_about_106 : decode cX6_about 106 = .ok (.baload, 1) := by decide +kernel
theorem dX6_about_107 : decode cX6_about 107 = .ok (.ifCond .eq 7, 3) := by decide +kernel
theorem dX6_about_110 : decode cX6_about 110 = .ok (.iconst (-1), 1) := by decide +kernel
theorem dX6_about_111 : decode cX6_about 111 = .ok (.goto 8, 3) := by decide +kernel
theorem dX6_about_114 : decode cX6_about 114 = .ok (.aload_n 0, 1) := by decide +kernel
theorem dX6_about_115 : decode cX6_about 115 = .ok (.iload_n 1, 1) := by decide +kernel
theorem dX6_about_116 : decode cX6_about 116 = .ok (.invokevirtual 99, 3) := by decide +kernel
theorem dX6_about_119 : decode cX6_about 119 = .ok (.ireturn, 1) := by decide +kernel
theorem dX6_about_120 : decode cX6_about 120 = .ok (.aload_n 0, 1) := by decide +kernel
theorem dX6_about_121 : decode cX6_about 121 = .ok (.getfield 31, 3) := by decide +kernel
theorem dX6_about_124 : decode cX6_about 124 = .ok (.iload_n 1, 1) := by decide +kernel
theorem dX6_about_125 : decode cX6_about 125 = .ok (.baload, 1) := by decide +kernel
theorem dX6_about_126 : decode cX6_about 126 = .ok (.ifCond .eq 7, 3) := by decide +kernel
theorem dX6_about_129 : decode cX6_about 129 = .ok (.iconst 1, 1) := by decide +kernel
theorem dX6_about_130 : decode cX6_about 130 = .ok (.goto 4, 3) := by decide +kernel
theorem dX6_about_133 : decode cX6_about 133 = .ok (.iconst 0, 1) := by decide +kernel
theorem dX6_about_134 : decode cX6_about 134 = .ok (.ireturn, 1) := by decide +kernel
theorem dX6_free_0 : decode cX6_free 0 = .ok (.aload_n 0, 1) := by decide +kernel
theorem dX6_free_1 : decode cX6_free 1 = .ok (.iload_n 1, 1) := by decide +kernel
theorem dX6_free_2 : decode cX6_free 2 = .ok (.invokevirtual 73, 3) := by decide +kernel
theorem dX6_free_5 : decode cX6_free 5 = .ok (.ifCond .eq 12, 3) := by decide +kernel
theorem dX6_free_8 : decode cX6_free 8 = .ok (.iload_n 2, 1) := by decide +kernel
theorem dX6_free_9 : decode cX6_free 9 = .ok (.iconst 0, 1) := by decide +kernel
theorem dX6_free_10 : decode cX6_free 10 = .ok (.iconst 2, 1) := by decide +kernel
theorem dX6_free_11 : decode cX6_free 11 = .ok (.invokestatic 60, 3) := by decide +kernel
theorem dX6_free_14 : decode cX6_free 14 = .ok (.ifCond .ne 6, 3) := by decide +kernel
theorem dX6_free_17 : decode cX6_free 17 = .ok (.bipush (-2), 2) := by decide +kernel
theorem dX6_free_19 : decode cX6_free 19 = .ok (.ireturn, 1) := by decide +kernel
theorem dX6_free_20 : decode cX6_free 20 = .ok (.iload_n 2, 1) := by decide +kernel
theorem dX6_free_21 : decode cX6_free 21 = .ok (.ifCond .ne 11, 3) := by decide +kernel
theorem dX6_free_24 : decode cX6_free 24 = .ok (.aload_n 0, 1) := by decide +kernel
theorem dX6_free_25 : decode cX6_free 25 = .ok (.iload_n 1, 1) := by decide +kernel
theorem dX6_free_26 : decode cX6_free 26 = .ok (.invokevirtual 92, 3) := by decide +kernel
theorem dX6_free_29 : decode cX6_free 29 = .ok (.goto 21, 3) := by decide +kernel
theorem dX6_free_32 : decode cX6_free 32 = .ok (.iload_n 2, 1) := by decide +kernel
theorem dX6_free_33 : decode cX6_free 33 = .ok (.iconst 1, 1) := by decide +kernel
theorem dX6_free_34 : decode cX6_free 34 = .ok (.if_icmp .ne 11, 3) := by decide +kernel
theorem dX6_free_37 : decode cX6_free 37 = .ok (.aload_n 0, 1) := by decide +kernel
theorem dX6_free_38 : decode cX6_free 38 = .ok (.iload_n 1, 1) := by decide +kernel
theorem dX6_free_39 : decode cX6_free 39 = .ok (.invokevirtual 96, 3) := by decide +kernel
theorem dX6_free_42 : decode cX6_free 42 = .ok (.goto 8, 3) := by decide +kernel
theorem dX6_free_45 : decode cX6_free 45 = .ok (.aload_n 0, 1) := by decide +kernel
theorem dX6_free_46 : decode cX6_free 46 = .ok (.iload_n 1, 1) := by decide +kernel
theorem dX6_free_47 : decode cX6_free 47 = .ok (.invokevirtual 106, 3) := by decide +kernel
theorem dX6_free_50 : decode cX6_free 50 = .ok (.ireturn, 1) := by decide +kernel
theorem dX6_onto_0 : decode cX6_onto 0 = .ok (.iload_n 3, 1) := by decide +kernel
theorem dX6_onto_1 : decode cX6_onto 1 = .ok (.ifCond .ne 12, 3) := by decide +kernel
theorem dX6_onto_4 : decode cX6_onto 4 = .ok (.aload_n 0, 1) := by decide +kernel
theorem dX6_onto_5 : decode cX6_onto 5 = .ok (.getfield 16, 3) := by decide +kernel
theorem dX6_onto_8 : decode cX6_onto 8 = .ok (.iload_n 1, 1) := by decide +kernel
theorem dX6_onto_9 : decode cX6_onto 9 = .ok (.iaload, 1) := by decide +kernel
theorem dX6_onto_10 : decode cX6_onto 10 = .ok (.goto 9, 3) := by decide +kernel
theorem dX6_onto_13 : decode cX6_onto 13 = .ok (.aload_n 0, 1) := by decide +kernel
theorem dX6_onto_14 : decode cX6_onto 14 = .ok (.getfield 19, 3) := by decide +kernel
theorem dX6_onto_17 : decode cX6_onto 17 = .ok (.iload_n 1, 1) := by decide +kernel
theorem dX6_onto_18 : decode cX6_onto 18 = .ok (.iaload, 1) := by decide +kernel
theorem dX6_onto_19 : decode cX6_onto 19 = .ok (.istore 4, 2) := by decide +kernel
theorem dX6_onto_21 : decode cX6_onto 21 = .ok (.iconst 0, 1) := by decide +kernel
theorem dX6_onto_22 : decode cX6_onto 22 = .ok (.istore 5, 2) := by decide +kernel
theorem dX6_onto_24 : decode cX6_onto 24 = .ok (.iload 5, 2) := by decide +kernel
theorem dX6_onto_26 : decode cX6_onto 26 = .ok (.iload_n 1, 1) := by decide +kernel
theorem dX6_onto_27 : decode cX6_onto 27 = .ok (.if_icmp .ge 60, 3) := by decide +kernel
theorem dX6_onto_30 : decode cX6_onto 30 = .ok (.iload 4, 2) := by decide +kernel
theorem dX6_onto_32 : decode cX6_onto 32 = .ok (.aload_n 0, 1) := by decide +kernel
theorem dX6_onto_33 : decode cX6_onto 33 = .ok (.getfield 31, 3) := by decide +kernel
theorem dX6_onto_36 : decode cX6_onto 36 = .ok (.iload 5, 2) := by decide +kernel
theorem dX6_onto_38 : decode cX6_onto 38 = .ok (.baload, 1) := by decide +kernel
theorem dX6_onto_39 : decode cX6_onto 39 = .ok (.ifCond .ne 38, 3) := by decide +kernel
theorem dX6_onto_42 : decode cX6_onto 42 = .ok (.aload_n 0, 1) := by decide +kernel
theorem dX6_onto_43 : decode cX6_onto 43 = .ok (.getfield 39, 3) := by decide +kernel
theorem dX6_onto_46 : decode cX6_onto 46 = .ok (.iload 5, 2) := by decide +kernel
theorem dX6_onto_48 : decode cX6_onto 48 = .ok (.iaload, 1) := by decide +kernel
theorem dX6_onto_49 : decode cX6_onto 49 = .ok (.iload_n 2, 1) := by decide +kernel
theorem dX6_onto_50 : decode cX6_onto 50 = .ok (.if_icmp .ne 27, 3) := by decide +kernel
theorem dX6_onto_53 : decode cX6_onto 53 = .ok (.iload_n 3, 1) := by decide +kernel
theorem dX6_onto_54 : decode cX6_onto 54 = .ok (.ifCond .ne 13, 3) := by decide +kernel
theorem dX6_onto_57 : decode cX6_onto 57 = .ok (.aload_n 0, 1) := by decide +kernel
theorem dX6_onto_58 : decode cX6_onto 58 = .ok (.getfield 16, 3) := by decide +kernel
theorem dX6_onto_61 : decode cX6_onto 61 = .ok (.iload 5, 2) := by decide +kernel
theorem dX6_onto_63 : decode cX6_onto 63 = .ok (.iaload, 1) := by decide +kernel
theorem dX6_onto_64 : decode cX6_onto 64 = .ok (.goto 14, 3) := by decide +kernel
theorem dX6_onto_67 : decode cX6_onto 67 = .ok (.aload_n 0, 1) := by decide +kernel
theorem dX6_onto_68 : decode cX6_onto 68 = .ok (.getfield 19, 3) := by decide +kernel
theorem dX6_onto_71 : decode cX6_onto 71 = .ok (.iload 5, 2) := by decide +kernel
theorem dX6_onto_73 : decode cX6_onto 73 = .ok (.iaload, 1) := by decide +kernel
theorem dX6_onto_74 : decode cX6_onto 74 = .ok (.goto 4, 3) := by decide +kernel
theorem dX6_onto_77 : decode cX6_onto 77 = .ok (.iconst 0, 1) := by decide +kernel
theorem dX6_onto_78 : decode cX6_onto 78 = .ok (.iadd, 1) := by decide +kernel
theorem dX6_onto_79 : decode cX6_onto 79 = .ok (.istore 4, 2) := by decide +kernel
theorem dX6_onto_81 : decode cX6_onto 81 = .ok (.iinc 5 1, 3) := by decide +kernel
theorem dX6_onto_84 : decode cX6_onto 84 = .ok (.goto (-60), 3) := by decide +kernel
theorem dX6_onto_87 : decode cX6_onto 87 = .ok (.iload 4, 2) := by decide +kernel
theorem dX6_onto_89 : decode cX6_onto 89 = .ok (.ireturn, 1) := by decide +kernel
theorem dX6_used_0 : decode cX6_used 0 = .ok (.iconst 1, 1) := by decide +kernel
theorem dX6_used_1 : decode cX6_used 1 = .ok (.iload_n 2, 1) := by decide +kernel
theorem dX6_used_2 : decode cX6_used 2 = .ok (.ishl, 1) := by decide +kernel
theorem dX6_used_3 : decode cX6_used 3 = .ok (.istore_n 3, 1) := by decide +kernel
theorem dX6_used_4 : decode cX6_used 4 = .ok (.iconst 0, 1) := by decide +kernel
theorem dX6_used_5 : decode cX6_used 5 = .ok (.istore 4, 2) := by decide +kernel
theorem dX6_used_7 : decode cX6_used 7 = .ok (.iload 4, 2) := by decide +kernel
theorem dX6_used_9 : decode cX6_used 9 = .ok (.iload_n 1, 1) := by decide +kernel
theorem dX6_used_10 : decode cX6_used 10 = .ok (.if_icmp .ge 35, 3) := by decide +kernel
theorem dX6_used_13 : decode cX6_used 13 = .ok (.iload_n 3, 1) := by decide +kernel
theorem dX6_used_14 : decode cX6_used 14 = .ok (.aload_n 0, 1) := by decide +kernel
theorem dX6_used_15 : decode cX6_used 15 = .ok (.getfield 31, 3) := by decide +kernel
theorem dX6_used_18 : decode cX6_used 18 = .ok (.iload 4, 2) := by decide +kernel
theorem dX6_used_20 : decode cX6_used 20 = .ok (.baload, 1) := by decide +kernel
theorem dX6_used_21 : decode cX6_used 21 = .ok (.ifCond .eq 7, 3) := by decide +kernel
theorem dX6_used_24 : decode cX6_used 24 = .ok (.iconst 0, 1) := by decide +kernel
theorem dX6_used_25 : decode cX6_used 25 = .ok (.goto 12, 3) := by decide +kernel
theorem dX6_used_28 : decode cX6_used 28 = .ok (.iconst 1, 1) := by decide +kernel
theorem dX6_used_29 : decode cX6_used 29 = .ok (.aload_n 0, 1) := by decide +kernel
theorem dX6_used_30 : decode cX6_used 30 = .ok (.getfield 39, 3) := by decide +kernel
theorem dX6_used_33 : decode cX6_used 33 = .ok (.iload 4, 2) := by decide +kernel
theorem dX6_used_35 : decode cX6_used 35 = .ok (.iaload, 1) := by decide +kernel
theorem dX6_used_36 : decode cX6_used 36 = .ok (.ishl, 1) := by decide +kernel
theorem dX6_used_37 : decode cX6_used 37 = .ok (.ior, 1) := by decide +kernel
theorem dX6_used_38 : decode cX6_used 38 = .ok (.istore_n 3, 1) := by decide +kernel
theorem dX6_used_39 : decode cX6_used 39 = .ok (.iinc 4 1, 3) := by decide +kernel
theorem dX6_used_42 : decode cX6_used 42 = .ok (.goto (-35), 3) := by decide +kernel
theorem dX6_used_45 : decode cX6_used 45 = .ok (.iconst 0, 1) := by decide +kernel
theorem dX6_used_46 : decode cX6_used 46 = .ok (.istore 4, 2) := by decide +kernel
theorem dX6_used_48 : decode cX6_used 48 = .ok (.iconst 0, 1) := by decide +kernel
theorem dX6_used_49 : decode cX6_used 49 = .ok (.istore 5, 2) := by decide +kernel
theorem dX6_used_51 : decode cX6_used 51 = .ok (.iload 5, 2) := by decide +kernel
theorem dX6_used_53 : decode cX6_used 53 = .ok (.iconst 5, 1) := by decide +kernel
theorem dX6_used_54 : decode cX6_used 54 = .ok (.if_icmp .ge 20, 3) := by decide +kernel
theorem dX6_used_57 : decode cX6_used 57 = .ok (.iload 4, 2) := by decide +kernel
theorem dX6_used_59 : decode cX6_used 59 = .ok (.iload_n 3, 1) := by decide +kernel
theorem dX6_used_60 : decode cX6_used 60 = .ok (.iload 5, 2) := by decide +kernel
theorem dX6_used_62 : decode cX6_used 62 = .ok (.ishr, 1) := by decide +kernel
theorem dX6_used_63 : decode cX6_used 63 = .ok (.iconst 1, 1) := by decide +kernel
theorem dX6_used_64 : decode cX6_used 64 = .ok (.iand, 1) := by decide +kernel
theorem dX6_used_65 : decode cX6_used 65 = .ok (.iadd, 1) := by decide +kernel
theorem dX6_used_66 : decode cX6_used 66 = .ok (.istore 4, 2) := by decide +kernel
theorem dX6_used_68 : decode cX6_used 68 = .ok (.iinc 5 1, 3) := by decide +kernel
theorem dX6_used_71 : decode cX6_used 71 = .ok (.goto (-20), 3) := by decide +kernel
theorem dX6_used_74 : decode cX6_used 74 = .ok (.iload 4, 2) := by decide +kernel
theorem dX6_used_76 : decode cX6_used 76 = .ok (.ireturn, 1) := by decide +kernel
theorem dX6_isTry_0 : decode cX6_isTry 0 = .ok (.aload_n 0, 1) := by decide +kernel
theorem dX6_isTry_1 : decode cX6_isTry 1 = .ok (.getfield 109, 3) := by decide +kernel
theorem dX6_isTry_4 : decode cX6_isTry 4 = .ok (.iconst 1, 1) := by decide +kernel
theorem dX6_isTry_5 : decode cX6_isTry 5 = .ok (.if_icmp .ne 37, 3) := by decide +kernel
theorem dX6_isTry_8 : decode cX6_isTry 8 = .ok (.aload_n 0, 1) := by decide +kernel
theorem dX6_isTry_9 : decode cX6_isTry 9 = .ok (.getfield 7, 3) := by decide +kernel
theorem dX6_isTry_12 : decode cX6_isTry 12 = .ok (.aload_n 0, 1) := by decide +kernel
theorem dX6_isTry_13 : decode cX6_isTry 13 = .ok (.getfield 112, 3) := by decide +kernel
theorem dX6_isTry_16 : decode cX6_isTry 16 = .ok (.iaload, 1) := by decide +kernel
theorem dX6_isTry_17 : decode cX6_isTry 17 = .ok (.aload_n 0, 1) := by decide +kernel
theorem dX6_isTry_18 : decode cX6_isTry 18 = .ok (.getfield 115, 3) := by decide +kernel
theorem dX6_isTry_21 : decode cX6_isTry 21 = .ok (.if_icmp .lt 19, 3) := by decide +kernel
theorem dX6_isTry_24 : decode cX6_isTry 24 = .ok (.aload_n 0, 1) := by decide +kernel
theorem dX6_isTry_25 : decode cX6_isTry 25 = .ok (.getfield 13, 3) := by decide +kernel
theorem dX6_isTry_28 : decode cX6_isTry 28 = .ok (.aload_n 0, 1) := by decide +kernel
theorem dX6_isTry_29 : decode cX6_isTry 29 = .ok (.getfield 112, 3) := by decide +kernel
theorem dX6_isTry_32 : decode cX6_isTry 32 = .ok (.iaload, 1) := by decide +kernel
theorem dX6_isTry_33 : decode cX6_isTry 33 = .ok (.aload_n 0, 1) := by decide +kernel
theorem dX6_isTry_34 : decode cX6_isTry 34 = .ok (.getfield 118, 3) := by decide +kernel
theorem dX6_isTry_37 : decode cX6_isTry 37 = .ok (.if_icmp .ge 5, 3) := by decide +kernel
theorem dX6_isTry_40 : decode cX6_isTry 40 = .ok (.iconst 0, 1) := by decide +kernel
theorem dX6_isTry_41 : decode cX6_isTry 41 = .ok (.ireturn, 1) := by decide +kernel
theorem dX6_isTry_42 : decode cX6_isTry 42 = .ok (.aload_n 0, 1) := by decide +kernel
theorem dX6_isTry_43 : decode cX6_isTry 43 = .ok (.getfield 109, 3) := by decide +kernel
theorem dX6_isTry_46 : decode cX6_isTry 46 = .ok (.iconst 1, 1) := by decide +kernel
theorem dX6_isTry_47 : decode cX6_isTry 47 = .ok (.if_icmp .ne 18, 3) := by decide +kernel
theorem dX6_isTry_50 : decode cX6_isTry 50 = .ok (.iload_n 2, 1) := by decide +kernel
theorem dX6_isTry_51 : decode cX6_isTry 51 = .ok (.aload_n 0, 1) := by decide +kernel
theorem dX6_isTry_52 : decode cX6_isTry 52 = .ok (.getfield 112, 3) := by decide +kernel
theorem dX6_isTry_55 : decode cX6_isTry 55 = .ok (.if_icmp .ne 10, 3) := by decide +kernel
theorem dX6_isTry_58 : decode cX6_isTry 58 = .ok (.aload_n 0, 1) := by decide +kernel
theorem dX6_isTry_59 : decode cX6_isTry 59 = .ok (.getfield 115, 3) := by decide +kernel
theorem dX6_isTry_62 : decode cX6_isTry 62 = .ok (.goto 4, 3) := by decide +kernel
theorem dX6_isTry_65 : decode cX6_isTry 65 = .ok (.iconst 0, 1) := by decide +kernel
theorem dX6_isTry_66 : decode cX6_isTry 66 = .ok (.istore_n 3, 1) := by decide +kernel
theorem dX6_isTry_67 : decode cX6_isTry 67 = .ok (.aload_n 0, 1) := by decide +kernel
theorem dX6_isTry_68 : decode cX6_isTry 68 = .ok (.getfield 109, 3) := by decide +kernel
theorem dX6_isTry_71 : decode cX6_isTry 71 = .ok (.iconst 1, 1) := by decide +kernel
theorem dX6_isTry_72 : decode cX6_isTry 72 = .ok (.if_icmp .ne 18, 3) := by decide +kernel
theorem dX6_isTry_75 : decode cX6_isTry 75 = .ok (.iload_n 2, 1) := by decide +kernel
theorem dX6_isTry_76 : decode cX6_isTry 76 = .ok (.aload_n 0, 1) := by decide +kernel
theorem dX6_isTry_77 : decode cX6_isTry 77 = .ok (.getfield 112, 3) := by decide +kernel
theorem dX6_isTry_80 : decode cX6_isTry 80 = .ok (.if_icmp .ne 10, 3) := by decide +kernel
theorem dX6_isTry_83 : decode cX6_isTry 83 = .ok (.aload_n 0, 1) := by decide +kernel
theorem dX6_isTry_84 : decode cX6_isTry 84 = .ok (.getfield 118, 3) := by decide +kernel
theorem dX6_isTry_87 : decode cX6_isTry 87 = .ok (.goto 4, 3) := by decide +kernel
theorem dX6_isTry_90 : decode cX6_isTry 90 = .ok (.iconst 0, 1) := by decide +kernel
theorem dX6_isTry_91 : decode cX6_isTry 91 = .ok (.istore 4, 2) := by decide +kernel
theorem dX6_isTry_93 : decode cX6_isTry 93 = .ok (.aload_n 0, 1) := by decide +kernel
theorem dX6_isTry_94 : decode cX6_isTry 94 = .ok (.iload_n 1, 1) := by decide +kernel
theorem dX6_isTry_95 : decode cX6_isTry 95 = .ok (.iload_n 2, 1) := by decide +kernel
theorem dX6_isTry_96 : decode cX6_isTry 96 = .ok (.iconst 0, 1) := by decide +kernel
theorem dX6_isTry_97 : decode cX6_isTry 97 = .ok (.invokevirtual 121, 3) := by decide +kernel
theorem dX6_isTry_100 : decode cX6_isTry 100 = .ok (.aload_n 0, 1) := by decide +kernel
theorem dX6_isTry_101 : decode cX6_isTry 101 = .ok (.getfield 7, 3) := by decide +kernel
theorem dX6_isTry_104 : decode cX6_isTry 104 = .ok (.iload_n 2, 1) := by decide +kernel
theorem dX6_isTry_105 : decode cX6_isTry 105 = .ok (.iaload, 1) := by decide +kernel
theorem dX6_isTry_106 : decode cX6_isTry 106 = .ok (.iload_n 3, 1) := by decide +kernel
theorem dX6_isTry_107 : decode cX6_isTry 107 = .ok (.isub, 1) := by decide +kernel
theorem dX6_isTry_108 : decode cX6_isTry 108 = .ok (.if_icmp .gt 22, 3) := by decide +kernel
theorem dX6_isTry_111 : decode cX6_isTry 111 = .ok (.aload_n 0, 1) := by decide +kernel
theorem dX6_isTry_112 : decode cX6_isTry 112 = .ok (.iload_n 1, 1) := by decide +kernel
theorem dX6_isTry_113 : decode cX6_isTry 113 = .ok (.iload_n 2, 1) := by decide +kernel
theorem dX6_isTry_114 : decode cX6_isTry 114 = .ok (.iconst 1, 1) := by decide +kernel
theorem dX6_isTry_115 : decode cX6_isTry 115 = .ok (.invokevirtual 121, 3) := by decide +kernel
theorem dX6_isTry_118 : decode cX6_isTry 118 = .ok (.aload_n 0, 1) := by decide +kernel
theorem dX6_isTry_119 : decode cX6_isTry 119 = .ok (.getfield 13, 3) := by decide +kernel
theorem dX6_isTry_122 : decode cX6_isTry 122 = .ok (.iload_n 2, 1) := by decide +kernel
theorem dX6_isTry_123 : decode cX6_isTry 123 = .ok (.iaload, 1) := by decide +kernel
theorem dX6_isTry_124 : decode cX6_isTry 124 = .ok (.iload 4, 2) := by decide +kernel
theorem dX6_isTry_126 : decode cX6_isTry 126 = .ok (.isub, 1) := by decide +kernel
theorem dX6_isTry_127 : decode cX6_isTry 127 = .ok (.if_icmp .le 5, 3) := by decide +kernel
theorem dX6_isTry_130 : decode cX6_isTry 130 = .ok (.iconst 0, 1) := by decide +kernel
theorem dX6_isTry_131 : decode cX6_isTry 131 = .ok (.ireturn, 1) := by decide +kernel
theorem dX6_isTry_132 : decode cX6_isTry 132 = .ok (.aload_n 0, 1) := by decide +kernel
theorem dX6_isTry_133 : decode cX6_isTry 133 = .ok (.getfield 22, 3) := by decide +kernel
theorem dX6_isTry_136 : decode cX6_isTry 136 = .ok (.iload_n 1, 1) := by decide +kernel
theorem dX6_isTry_137 : decode cX6_isTry 137 = .ok (.iaload, 1) := by decide +kernel
theorem dX6_isTry_138 : decode cX6_isTry 138 = .ok (.iconst 3, 1) := by decide +kernel
theorem dX6_isTry_139 : decode cX6_isTry 139 = .ok (.if_icmp .ne 13, 3) := by decide +kernel
theorem dX6_isTry_142 : decode cX6_isTry 142 = .ok (.aload_n 0, 1) := by decide +kernel
theorem dX6_isTry_143 : decode cX6_isTry 143 = .ok (.getfield 28, 3) := by decide +kernel
theorem dX6_isTry_146 : decode cX6_isTry 146 = .ok (.iload_n 1, 1) := by decide +kernel
theorem dX6_isTry_147 : decode cX6_isTry 147 = .ok (.iaload, 1) := by decide +kernel
theorem dX6_isTry_148 : decode cX6_isTry 148 = .ok (.iload_n 2, 1) := by decide +kernel
theorem dX6_isTry_149 : decode cX6_isTry 149 = .ok (.if_icmp .ne 39, 3) := by decide +kernel
theorem dX6_isTry_152 : decode cX6_isTry 152 = .ok (.aload_n 0, 1) := by decide +kernel
theorem dX6_isTry_153 : decode cX6_isTry 153 = .ok (.getfield 109, 3) := by decide +kernel
theorem dX6_isTry_156 : decode cX6_isTry 156 = .ok (.ifCond .ne 11, 3) := by decide +kernel
theorem dX6_isTry_159 : decode cX6_isTry 159 = .ok (.iload_n 2, 1) := by decide +kernel
theorem dX6_isTry_160 : decode cX6_isTry 160 = .ok (.aload_n 0, 1) := by decide +kernel
theorem dX6_isTry_161 : decode cX6_isTry 161 = .ok (.getfield 112, 3) := by decide +kernel
theorem dX6_isTry_164 : decode cX6_isTry 164 = .ok (.if_icmp .eq 24, 3) := by decide +kernel
theorem dX6_isTry_167 : decode cX6_isTry 167 = .ok (.aload_n 0, 1) := by decide +kernel
theorem dX6_isTry_168 : decode cX6_isTry 168 = .ok (.getfield 109, 3) := by decide +kernel
theorem dX6_isTry_171 : decode cX6_isTry 171 = .ok (.iconst 2, 1) := by decide +kernel
theorem dX6_isTry_172 : decode cX6_isTry 172 = .ok (.if_icmp .ne 18, 3) := by decide +kernel
theorem dX6_isTry_175 : decode cX6_isTry 175 = .ok (.aload_n 0, 1) := by decide +kernel
theorem dX6_isTry_176 : decode cX6_isTry 176 = .ok (.iload_n 1, 1) := by decide +kernel
theorem dX6_isTry_177 : decode cX6_isTry 177 = .ok (.iload_n 2, 1) := by decide +kernel
theorem dX6_isTry_178 : decode cX6_isTry 178 = .ok (.invokevirtual 125, 3) := by decide +kernel
theorem dX6_isTry_181 : decode cX6_isTry 181 = .ok (.aload_n 0, 1) := by decide +kernel
theorem dX6_isTry_182 : decode cX6_isTry 182 = .ok (.getfield 115, 3) := by decide +kernel
theorem dX6_isTry_185 : decode cX6_isTry 185 = .ok (.if_icmp .le 5, 3) := by decide +kernel
theorem dX6_isTry_188 : decode cX6_isTry 188 = .ok (.iconst 0, 1) := by decide +kernel
theorem dX6_isTry_189 : decode cX6_isTry 189 = .ok (.ireturn, 1) := by decide +kernel
theorem dX6_isTry_190 : decode cX6_isTry 190 = .ok (.iconst 0, 1) := by decide +kernel
theorem dX6_isTry_191 : decode cX6_isTry 191 = .ok (.istore 5, 2) := by decide +kernel
theorem dX6_isTry_193 : decode cX6_isTry 193 = .ok (.iload 5, 2) := by decide +kernel
theorem dX6_isTry_195 : decode cX6_isTry 195 = .ok (.iload_n 1, 1) := by decide +kernel
theorem dX6_isTry_196 : decode cX6_isTry 196 = .ok (.if_icmp .ge 65, 3) := by decide +kernel
theorem dX6_isTry_199 : decode cX6_isTry 199 = .ok (.aload_n 0, 1) := by decide +kernel
theorem dX6_isTry_200 : decode cX6_isTry 200 = .ok (.getfield 31, 3) := by decide +kernel
theorem dX6_isTry_203 : decode cX6_isTry 203 = .ok (.iload 5, 2) := by decide +kernel
theorem dX6_isTry_205 : decode cX6_isTry 205 = .ok (.baload, 1) := by decide +kernel
theorem dX6_isTry_206 : decode cX6_isTry 206 = .ok (.ifCond .ne 49, 3) := by decide +kernel
theorem dX6_isTry_209 : decode cX6_isTry 209 = .ok (.aload_n 0, 1) := by decide +kernel
theorem dX6_isTry_210 : decode cX6_isTry 210 = .ok (.iload_n 1, 1) := by decide +kernel
theorem dX6_isTry_211 : decode cX6_isTry 211 = .ok (.iload 5, 2) := by decide +kernel
theorem dX6_isTry_213 : decode cX6_isTry 213 = .ok (.iconst 1, 1) := by decide +kernel
theorem dX6_isTry_214 : decode cX6_isTry 214 = .ok (.invokevirtual 70, 3) := by decide +kernel
theorem dX6_isTry_217 : decode cX6_isTry 217 = .ok (.ifCond .eq 14, 3) := by decide +kernel
theorem dX6_isTry_220 : decode cX6_isTry 220 = .ok (.aload_n 0, 1) := by decide +kernel
theorem dX6_isTry_221 : decode cX6_isTry 221 = .ok (.getfield 39, 3) := by decide +kernel
theorem dX6_isTry_224 : decode cX6_isTry 224 = .ok (.iload 5, 2) := by decide +kernel
theorem dX6_isTry_226 : decode cX6_isTry 226 = .ok (.iaload, 1) := by decide +kernel
theorem dX6_isTry_227 : decode cX6_isTry 227 = .ok (.iload_n 2, 1) := by decide +kernel
theorem dX6_isTry_228 : decode cX6_isTry 228 = .ok (.if_icmp .eq 25, 3) := by decide +kernel
theorem dX6_isTry_231 : decode cX6_isTry 231 = .ok (.aload_n 0, 1) := by decide +kernel
theorem dX6_isTry_232 : decode cX6_isTry 232 = .ok (.iload_n 1, 1) := by decide +kernel
theorem dX6_isTry_233 : decode cX6_isTry 233 = .ok (.iload 5, 2) := by decide +kernel
theorem dX6_isTry_235 : decode cX6_isTry 235 = .ok (.iconst 2, 1) := by decide +kernel
theorem dX6_isTry_236 : decode cX6_isTry 236 = .ok (.invokevirtual 70, 3) := by decide +kernel
theorem dX6_isTry_239 : decode cX6_isTry 239 = .ok (.ifCond .eq 16, 3) := by decide +kernel
theorem dX6_isTry_242 : decode cX6_isTry 242 = .ok (.aload_n 0, 1) := by decide +kernel
theorem dX6_isTry_243 : decode cX6_isTry 243 = .ok (.getfield 39, 3) := by decide +kernel
theorem dX6_isTry_246 : decode cX6_isTry 246 = .ok (.iload 5, 2) := by decide +kernel
theorem dX6_isTry_248 : decode cX6_isTry 248 = .ok (.iaload, 1) := by decide +kernel
theorem dX6_isTry_249 : decode cX6_isTry 249 = .ok (.iload_n 2, 1) := by decide +kernel
theorem dX6_isTry_250 : decode cX6_isTry 250 = .ok (.if_icmp .eq 5, 3) := by decide +kernel
theorem dX6_isTry_253 : decode cX6_isTry 253 = .ok (.iconst 0, 1) := by decide +kernel
theorem dX6_isTry_254 : decode cX6_isTry 254 = .ok (.ireturn, 1) := by decide +kernel
theorem dX6_isTry_255 : decode cX6_isTry 255 = .ok (.iinc 5 1, 3) := by decide +kernel
theorem dX6_isTry_258 : decode cX6_isTry 258 = .ok (.goto (-65), 3) := by decide +kernel
theorem dX6_isTry_261 : decode cX6_isTry 261 = .ok (.iconst 1, 1) := by decide +kernel
theorem dX6_isTry_262 : decode cX6_isTry 262 = .ok (.ireturn, 1) := by decide +kernel
theorem dX6_weigh_0 : decode cX6_weigh 0 = .ok (.aload_n 0, 1) := by decide +kernel
theorem dX6_weigh_1 : decode cX6_weigh 1 = .ok (.getfield 109, 3) := by decide +kernel
theorem dX6_weigh_4 : decode cX6_weigh 4 = .ok (.iconst 3, 1) := by decide +kernel
theorem dX6_weigh_5 : decode cX6_weigh 5 = .ok (.if_icmp .ne 70, 3) := by decide +kernel
theorem dX6_weigh_8 : decode cX6_weigh 8 = .ok (.iconst 0, 1) := by decide +kernel
theorem dX6_weigh_9 : decode cX6_weigh 9 = .ok (.istore_n 1, 1) := by decide +kernel
theorem dX6_weigh_10 : decode cX6_weigh 10 = .ok (.iconst 0, 1) := by decide +kernel
theorem dX6_weigh_11 : decode cX6_weigh 11 = .ok (.istore_n 2, 1) := by decide +kernel
theorem dX6_weigh_12 : decode cX6_weigh 12 = .ok (.iload_n 2, 1) := by decide +kernel
theorem dX6_weigh_13 : decode cX6_weigh 13 = .ok (.aload_n 0, 1) := by decide +kernel
theorem dX6_weigh_14 : decode cX6_weigh 14 = .ok (.getfield 67, 3) := by decide +kernel
theorem dX6_weigh_17 : decode cX6_weigh 17 = .ok (.if_icmp .ge 33, 3) := by decide +kernel
theorem dX6_weigh_20 : decode cX6_weigh 20 = .ok (.iload_n 1, 1) := by decide +kernel
theorem dX6_weigh_21 : decode cX6_weigh 21 = .ok (.aload_n 0, 1) := by decide +kernel
theorem dX6_weigh_22 : decode cX6_weigh 22 = .ok (.getfield 31, 3) := by decide +kernel
theorem dX6_weigh_25 : decode cX6_weigh 25 = .ok (.iload_n 2, 1) := by decide +kernel
theorem dX6_weigh_26 : decode cX6_weigh 26 = .ok (.baload, 1) := by decide +kernel
theorem dX6_weigh_27 : decode cX6_weigh 27 = .ok (.ifCond .eq 7, 3) := by decide +kernel
theorem dX6_weigh_30 : decode cX6_weigh 30 = .ok (.iconst 0, 1) := by decide +kernel
theorem dX6_weigh_31 : decode cX6_weigh 31 = .ok (.goto 11, 3) := by decide +kernel
theorem dX6_weigh_34 : decode cX6_weigh 34 = .ok (.iconst 1, 1) := by decide +kernel
theorem dX6_weigh_35 : decode cX6_weigh 35 = .ok (.aload_n 0, 1) := by decide +kernel
theorem dX6_weigh_36 : decode cX6_weigh 36 = .ok (.getfield 39, 3) := by decide +kernel
theorem dX6_weigh_39 : decode cX6_weigh 39 = .ok (.iload_n 2, 1) := by decide +kernel
theorem dX6_weigh_40 : decode cX6_weigh 40 = .ok (.iaload, 1) := by decide +kernel
theorem dX6_weigh_41 : decode cX6_weigh 41 = .ok (.ishl, 1) := by decide +kernel
theorem dX6_weigh_42 : decode cX6_weigh 42 = .ok (.ior, 1) := by decide +kernel
theorem dX6_weigh_43 : decode cX6_weigh 43 = .ok (.istore_n 1, 1) := by decide +kernel
theorem dX6_weigh_44 : decode cX6_weigh 44 = .ok (.iinc 2 1, 3) := by decide +kernel
theorem dX6_weigh_47 : decode cX6_weigh 47 = .ok (.goto (-35), 3) := by decide +kernel
theorem dX6_weigh_50 : decode cX6_weigh 50 = .ok (.iconst 0, 1) := by decide +kernel
theorem dX6_weigh_51 : decode cX6_weigh 51 = .ok (.istore_n 2, 1) := by decide +kernel
theorem dX6_weigh_52 : decode cX6_weigh 52 = .ok (.iconst 0, 1) := by decide +kernel
theorem dX6_weigh_53 : decode cX6_weigh 53 = .ok (.istore_n 3, 1) := by decide +kernel
theorem dX6_weigh_54 : decode cX6_weigh 54 = .ok (.iload_n 3, 1) := by decide +kernel
theorem dX6_weigh_55 : decode cX6_weigh 55 = .ok (.iconst 5, 1) := by decide +kernel
theorem dX6_weigh_56 : decode cX6_weigh 56 = .ok (.if_icmp .ge 17, 3) := by decide +kernel
theorem dX6_weigh_59 : decode cX6_weigh 59 = .ok (.iload_n 2, 1) := by decide +kernel
theorem dX6_weigh_60 : decode cX6_weigh 60 = .ok (.iload_n 1, 1) := by decide +kernel
theorem dX6_weigh_61 : decode cX6_weigh 61 = .ok (.iload_n 3, 1) := by decide +kernel
theorem dX6_weigh_62 : decode cX6_weigh 62 = .ok (.ishr, 1) := by decide +kernel
theorem dX6_weigh_63 : decode cX6_weigh 63 = .ok (.iconst 1, 1) := by decide +kernel
theorem dX6_weigh_64 : decode cX6_weigh 64 = .ok (.iand, 1) := by decide +kernel
theorem dX6_weigh_65 : decode cX6_weigh 65 = .ok (.iadd, 1) := by decide +kernel
theorem dX6_weigh_66 : decode cX6_weigh 66 = .ok (.istore_n 2, 1) := by decide +kernel
theorem dX6_weigh_67 : decode cX6_weigh 67 = .ok (.iinc 3 1, 3) := by decide +kernel
theorem dX6_weigh_70 : decode cX6_weigh 70 = .ok (.goto (-16), 3) := by decide +kernel
theorem dX6_weigh_73 : decode cX6_weigh 73 = .ok (.iload_n 2, 1) := by decide +kernel
theorem dX6_weigh_74 : decode cX6_weigh 74 = .ok (.ireturn, 1) := by decide +kernel
theorem dX6_weigh_75 : decode cX6_weigh 75 = .ok (.iconst 0, 1) := by decide +kernel
theorem dX6_weigh_76 : decode cX6_weigh 76 = .ok (.istore_n 1, 1) := by decide +kernel
theorem dX6_weigh_77 : decode cX6_weigh 77 = .ok (.iconst 0, 1) := by decide +kernel
theorem dX6_weigh_78 : decode cX6_weigh 78 = .ok (.istore_n 2, 1) := by decide +kernel
theorem dX6_weigh_79 : decode cX6_weigh 79 = .ok (.iload_n 2, 1) := by decide +kernel
theorem dX6_weigh_80 : decode cX6_weigh 80 = .ok (.aload_n 0, 1) := by decide +kernel
theorem dX6_weigh_81 : decode cX6_weigh 81 = .ok (.getfield 67, 3) := by decide +kernel
theorem dX6_weigh_84 : decode cX6_weigh 84 = .ok (.if_icmp .ge 40, 3) := by decide +kernel
theorem dX6_weigh_87 : decode cX6_weigh 87 = .ok (.iload_n 1, 1) := by decide +kernel
theorem dX6_weigh_88 : decode cX6_weigh 88 = .ok (.aload_n 0, 1) := by decide +kernel
theorem dX6_weigh_89 : decode cX6_weigh 89 = .ok (.iload_n 2, 1) := by decide +kernel
theorem dX6_weigh_90 : decode cX6_weigh 90 = .ok (.invokevirtual 129, 3) := by decide +kernel
theorem dX6_weigh_93 : decode cX6_weigh 93 = .ok (.ifCond .eq 22, 3) := by decide +kernel
theorem dX6_weigh_96 : decode cX6_weigh 96 = .ok (.aload_n 0, 1) := by decide +kernel
theorem dX6_weigh_97 : decode cX6_weigh 97 = .ok (.getfield 39, 3) := by decide +kernel
theorem dX6_weigh_100 : decode cX6_weigh 100 = .ok (.iload_n 2, 1) := by decide +kernel
theorem dX6_weigh_101 : decode cX6_weigh 101 = .ok (.iaload, 1) := by decide +kernel
theorem dX6_weigh_102 : decode cX6_weigh 102 = .ok (.aload_n 0, 1) := by decide +kernel
theorem dX6_weigh_103 : decode cX6_weigh 103 = .ok (.getfield 28, 3) := by decide +kernel
theorem dX6_weigh_106 : decode cX6_weigh 106 = .ok (.iload_n 2, 1) := by decide +kernel
theorem dX6_weigh_107 : decode cX6_weigh 107 = .ok (.iaload, 1) := by decide +kernel
theorem dX6_weigh_108 : decode cX6_weigh 108 = .ok (.if_icmp .eq 7, 3) := by decide +kernel
theorem dX6_weigh_111 : decode cX6_weigh 111 = .ok (.iconst 1, 1) := by decide +kernel
theorem dX6_weigh_112 : decode cX6_weigh 112 = .ok (.goto 4, 3) := by decide +kernel
theorem dX6_weigh_115 : decode cX6_weigh 115 = .ok (.iconst 0, 1) := by decide +kernel
theorem dX6_weigh_116 : decode cX6_weigh 116 = .ok (.iadd, 1) := by decide +kernel
theorem dX6_weigh_117 : decode cX6_weigh 117 = .ok (.istore_n 1, 1) := by decide +kernel
theorem dX6_weigh_118 : decode cX6_weigh 118 = .ok (.iinc 2 1, 3) := by decide +kernel
theorem dX6_weigh_121 : decode cX6_weigh 121 = .ok (.goto (-42), 3) := by decide +kernel
theorem dX6_weigh_124 : decode cX6_weigh 124 = .ok (.iload_n 1, 1) := by decide +kernel
theorem dX6_weigh_125 : decode cX6_weigh 125 = .ok (.ireturn, 1) := by decide +kernel
theorem dX6_next_0 : decode cX6_next 0 = .ok (.iload_n 1, 1) := by decide +kernel
theorem dX6_next_1 : decode cX6_next 1 = .ok (.iload_n 2, 1) := by decide +kernel
theorem dX6_next_2 : decode cX6_next 2 = .ok (.iadd, 1) := by decide +kernel
theorem dX6_next_3 : decode cX6_next 3 = .ok (.istore_n 3, 1) := by decide +kernel
theorem dX6_next_4 : decode cX6_next 4 = .ok (.iload_n 3, 1) := by decide +kernel
theorem dX6_next_5 : decode cX6_next 5 = .ok (.iconst 0, 1) := by decide +kernel
theorem dX6_next_6 : decode cX6_next 6 = .ok (.aload_n 0, 1) := by decide +kernel
theorem dX6_next_7 : decode cX6_next 7 = .ok (.getfield 67, 3) := by decide +kernel
theorem dX6_next_10 : decode cX6_next 10 = .ok (.iconst 1, 1) := by decide +kernel
theorem dX6_next_11 : decode cX6_next 11 = .ok (.isub, 1) := by decide +kernel
theorem dX6_next_12 : decode cX6_next 12 = .ok (.invokestatic 60, 3) := by decide +kernel
theorem dX6_next_15 : decode cX6_next 15 = .ok (.ifCond .eq 19, 3) := by decide +kernel
theorem dX6_next_18 : decode cX6_next 18 = .ok (.aload_n 0, 1) := by decide +kernel
theorem dX6_next_19 : decode cX6_next 19 = .ok (.getfield 31, 3) := by decide +kernel
theorem dX6_next_22 : decode cX6_next 22 = .ok (.iload_n 3, 1) := by decide +kernel
theorem dX6_next_23 : decode cX6_next 23 = .ok (.baload, 1) := by decide +kernel
theorem dX6_next_24 : decode cX6_next 24 = .ok (.ifCond .eq 10, 3) := by decide +kernel
theorem dX6_next_27 : decode cX6_next 27 = .ok (.iload_n 3, 1) := by decide +kernel
theorem dX6_next_28 : decode cX6_next 28 = .ok (.iload_n 2, 1) := by decide +kernel
theorem dX6_next_29 : decode cX6_next 29 = .ok (.iadd, 1) := by decide +kernel
theorem dX6_next_30 : decode cX6_next 30 = .ok (.istore_n 3, 1) := by decide +kernel
theorem dX6_next_31 : decode cX6_next 31 = .ok (.goto (-27), 3) := by decide +kernel
theorem dX6_next_34 : decode cX6_next 34 = .ok (.iload_n 3, 1) := by decide +kernel
theorem dX6_next_35 : decode cX6_next 35 = .ok (.ireturn, 1) := by decide +kernel
theorem dX6_search_0 : decode cX6_search 0 = .ok (.aload_n 0, 1) := by decide +kernel
theorem dX6_search_1 : decode cX6_search 1 = .ok (.iconst 0, 1) := by decide +kernel
theorem dX6_search_2 : decode cX6_search 2 = .ok (.putfield 132, 3) := by decide +kernel
theorem dX6_search_5 : decode cX6_search 5 = .ok (.aload_n 0, 1) := by decide +kernel
theorem dX6_search_6 : decode cX6_search 6 = .ok (.iconst (-1), 1) := by decide +kernel
theorem dX6_search_7 : decode cX6_search 7 = .ok (.putfield 135, 3) := by decide +kernel
theorem dX6_search_10 : decode cX6_search 10 = .ok (.aload_n 0, 1) := by decide +kernel
theorem dX6_search_11 : decode cX6_search 11 = .ok (.getfield 109, 3) := by decide +kernel
theorem dX6_search_14 : decode cX6_search 14 = .ok (.iconst 1, 1) := by decide +kernel
theorem dX6_search_15 : decode cX6_search 15 = .ok (.if_icmp .ne 40, 3) := by decide +kernel
theorem dX6_search_18 : decode cX6_search 18 = .ok (.aload_n 0, 1) := by decide +kernel
theorem dX6_search_19 : decode cX6_search 19 = .ok (.getfield 7, 3) := by decide +kernel
theorem dX6_search_22 : decode cX6_search 22 = .ok (.aload_n 0, 1) := by decide +kernel
theorem dX6_search_23 : decode cX6_search 23 = .ok (.getfield 112, 3) := by decide +kernel
theorem dX6_search_26 : decode cX6_search 26 = .ok (.iaload, 1) := by decide +kernel
theorem dX6_search_27 : decode cX6_search 27 = .ok (.aload_n 0, 1) := by decide +kernel
theorem dX6_search_28 : decode cX6_search 28 = .ok (.getfield 115, 3) := by decide +kernel
theorem dX6_search_31 : decode cX6_search 31 = .ok (.if_icmp .lt 19, 3) := by decide +kernel
theorem dX6_search_34 : decode cX6_search 34 = .ok (.aload_n 0, 1) := by decide +kernel
theorem dX6_search_35 : decode cX6_search 35 = .ok (.getfield 13, 3) := by decide +kernel
theorem dX6_search_38 : decode cX6_search 38 = .ok (.aload_n 0, 1) := by decide +kernel
theorem dX6_search_39 : decode cX6_search 39 = .ok (.getfield 112, 3) := by decide +kernel
theorem dX6_search_42 : decode cX6_search 42 = .ok (.iaload, 1) := by decide +kernel
theorem dX6_search_43 : decode cX6_search 43 = .ok (.aload_n 0, 1) := by decide +kernel
theorem dX6_search_44 : decode cX6_search 44 = .ok (.getfield 118, 3) := by decide +kernel
theorem dX6_search_47 : decode cX6_search 47 = .ok (.if_icmp .ge 8, 3) := by decide +kernel
theorem dX6_search_50 : decode cX6_search 50 = .ok (.aload_n 0, 1) := by decide +kernel
theorem dX6_search_51 : decode cX6_search 51 = .ok (.invokevirtual 138, 3) := by decide +kernel
theorem dX6_search_54 : decode cX6_search 54 = .ok (.ireturn, 1) := by decide +kernel
theorem dX6_search_55 : decode cX6_search 55 = .ok (.aload_n 0, 1) := by decide +kernel
theorem dX6_search_56 : decode cX6_search 56 = .ok (.invokevirtual 141, 3) := by decide +kernel
theorem dX6_search_59 : decode cX6_search 59 = .ok (.ireturn, 1) := by decide +kernel
theorem dX6_searchRoom_0 : decode cX6_searchRoom 0 = .ok (.aload_n 0, 1) := by decide +kernel
theorem dX6_searchRoom_1 : decode cX6_searchRoom 1 = .ok (.invokevirtual 141, 3) := by decide +kernel
theorem dX6_searchRoom_4 : decode cX6_searchRoom 4 = .ok (.istore_n 1, 1) := by decide +kernel
theorem dX6_searchRoom_5 : decode cX6_searchRoom 5 = .ok (.aload_n 0, 1) := by decide +kernel
theorem dX6_searchRoom_6 : decode cX6_searchRoom 6 = .ok (.iload_n 1, 1) := by decide +kernel
theorem dX6_searchRoom_7 : decode cX6_searchRoom 7 = .ok (.ifCond .eq 7, 3) := by decide +kernel
theorem dX6_searchRoom_10 : decode cX6_searchRoom 10 = .ok (.iconst (-1), 1) := by decide +kernel
theorem dX6_searchRoom_11 : decode cX6_searchRoom 11 = .ok (.goto 7, 3) := by decide +kernel
theorem dX6_searchRoom_14 : decode cX6_searchRoom 14 = .ok (.aload_n 0, 1) := by decide +kernel
theorem dX6_searchRoom_15 : decode cX6_searchRoom 15 = .ok (.getfield 135, 3) := by decide +kernel
theorem dX6_searchRoom_18 : decode cX6_searchRoom 18 = .ok (.putfield 135, 3) := by decide +kernel
theorem dX6_searchRoom_21 : decode cX6_searchRoom 21 = .ok (.iload_n 1, 1) := by decide +kernel
theorem dX6_searchRoom_22 : decode cX6_searchRoom 22 = .ok (.ireturn, 1) := by decide +kernel
theorem dX6_go_0 : decode cX6_go 0 = .ok (.aload_n 0, 1) := by decide +kernel
theorem dX6_go_1 : decode cX6_go 1 = .ok (.iconst (-1), 1) := by decide +kernel
theorem dX6_go_2 : decode cX6_go 2 = .ok (.iconst 1, 1) := by decide +kernel
theorem dX6_go_3 : decode cX6_go 3 = .ok (.invokevirtual 144, 3) := by decide +kernel
theorem dX6_go_6 : decode cX6_go 6 = .ok (.istore_n 1, 1) := by decide +kernel
theorem dX6_go_7 : decode cX6_go 7 = .ok (.iload_n 1, 1) := by decide +kernel
theorem dX6_go_8 : decode cX6_go 8 = .ok (.aload_n 0, 1) := by decide +kernel
theorem dX6_go_9 : decode cX6_go 9 = .ok (.getfield 67, 3) := by decide +kernel
theorem dX6_go_12 : decode cX6_go 12 = .ok (.if_icmp .lt 10, 3) := by decide +kernel
theorem dX6_go_15 : decode cX6_go 15 = .ok (.aload_n 0, 1) := by decide +kernel
theorem dX6_go_16 : decode cX6_go 16 = .ok (.iconst 0, 1) := by decide +kernel
theorem dX6_go_17 : decode cX6_go 17 = .ok (.putfield 135, 3) := by decide +kernel
theorem dX6_go_20 : decode cX6_go 20 = .ok (.iconst 1, 1) := by decide +kernel
theorem dX6_go_21 : decode cX6_go 21 = .ok (.ireturn, 1) := by decide +kernel
theorem dX6_go_22 : decode cX6_go 22 = .ok (.aload_n 0, 1) := by decide +kernel
theorem dX6_go_23 : decode cX6_go 23 = .ok (.getfield 39, 3) := by decide +kernel
theorem dX6_go_26 : decode cX6_go 26 = .ok (.iload_n 1, 1) := by decide +kernel
theorem dX6_go_27 : decode cX6_go 27 = .ok (.iconst (-1), 1) := by decide +kernel
theorem dX6_go_28 : decode cX6_go 28 = .ok (.iastore, 1) := by decide +kernel
theorem dX6_go_29 : decode cX6_go 29 = .ok (.iload_n 1, 1) := by decide +kernel
theorem dX6_go_30 : decode cX6_go 30 = .ok (.ifCond .lt 115, 3) := by decide +kernel
theorem dX6_go_33 : decode cX6_go 33 = .ok (.aload_n 0, 1) := by decide +kernel
theorem dX6_go_34 : decode cX6_go 34 = .ok (.getfield 39, 3) := by decide +kernel
theorem dX6_go_37 : decode cX6_go 37 = .ok (.iload_n 1, 1) := by decide +kernel
theorem dX6_go_38 : decode cX6_go 38 = .ok (.iaload, 1) := by decide +kernel
theorem dX6_go_39 : decode cX6_go 39 = .ok (.iconst 1, 1) := by decide +kernel
theorem dX6_go_40 : decode cX6_go 40 = .ok (.iadd, 1) := by decide +kernel
theorem dX6_go_41 : decode cX6_go 41 = .ok (.istore_n 2, 1) := by decide +kernel
theorem dX6_go_42 : decode cX6_go 42 = .ok (.iload_n 2, 1) := by decide +kernel
theorem dX6_go_43 : decode cX6_go 43 = .ok (.aload_n 0, 1) := by decide +kernel
theorem dX6_go_44 : decode cX6_go 44 = .ok (.getfield 64, 3) := by decide +kernel
theorem dX6_go_47 : decode cX6_go 47 = .ok (.if_icmp .ge 18, 3) := by decide +kernel
theorem dX6_go_50 : decode cX6_go 50 = .ok (.aload_n 0, 1) := by decide +kernel
theorem dX6_go_51 : decode cX6_go 51 = .ok (.iload_n 1, 1) := by decide +kernel
theorem dX6_go_52 : decode cX6_go 52 = .ok (.iload_n 2, 1) := by decide +kernel
theorem dX6_go_53 : decode cX6_go 53 = .ok (.invokevirtual 147, 3) := by decide +kernel
theorem dX6_go_56 : decode cX6_go 56 = .ok (.ifCond .ne 9, 3) := by decide +kernel
theorem dX6_go_59 : decode cX6_go 59 = .ok (.iinc 2 1, 3) := by decide +kernel
theorem dX6_go_62 : decode cX6_go 62 = .ok (.goto (-20), 3) := by decide +kernel
theorem dX6_go_65 : decode cX6_go 65 = .ok (.iload_n 2, 1) := by decide +kernel
theorem dX6_go_66 : decode cX6_go 66 = .ok (.aload_n 0, 1) := by decide +kernel
theorem dX6_go_67 : decode cX6_go 67 = .ok (.getfield 64, 3) := by decide +kernel
theorem dX6_go_70 : decode cX6_go 70 = .ok (.if_icmp .ne 13, 3) := by decide +kernel
theorem dX6_go_73 : decode cX6_go 73 = .ok (.aload_n 0, 1) := by decide +kernel
theorem dX6_go_74 : decode cX6_go 74 = .ok (.iload_n 1, 1) := by decide +kernel
theorem dX6_go_75 : decode cX6_go 75 = .ok (.iconst (-1), 1) := by decide +kernel
theorem dX6_go_76 : decode cX6_go 76 = .ok (.invokevirtual 144, 3) := by decide +kernel
theorem dX6_go_79 : decode cX6_go 79 = .ok (.istore_n 1, 1) := by decide +kernel
theorem dX6_go_80 : decode cX6_go 80 = .ok (.goto 62, 3) := by decide +kernel
theorem dX6_go_83 : decode cX6_go 83 = .ok (.aload_n 0, 1) := by decide +kernel
theorem dX6_go_84 : decode cX6_go 84 = .ok (.getfield 39, 3) := by decide +kernel
theorem dX6_go_87 : decode cX6_go 87 = .ok (.iload_n 1, 1) := by decide +kernel
theorem dX6_go_88 : decode cX6_go 88 = .ok (.iload_n 2, 1) := by decide +kernel
theorem dX6_go_89 : decode cX6_go 89 = .ok (.iastore, 1) := by decide +kernel
theorem dX6_go_90 : decode cX6_go 90 = .ok (.aload_n 0, 1) := by decide +kernel
theorem dX6_go_91 : decode cX6_go 91 = .ok (.getfield 132, 3) := by decide +kernel
theorem dX6_go_94 : decode cX6_go 94 = .ok (.ldc 150, 2) := by decide +kernel
theorem dX6_go_96 : decode cX6_go 96 = .ok (.if_icmp .ne 5, 3) := by decide +kernel
theorem dX6_go_99 : decode cX6_go 99 = .ok (.iconst 0, 1) := by decide +kernel
theorem dX6_go_100 : decode cX6_go 100 = .ok (.ireturn, 1) := by decide +kernel
theorem dX6_go_101 : decode cX6_go 101 = .ok (.aload_n 0, 1) := by decide +kernel
theorem dX6_go_102 : decode cX6_go 102 = .ok (.dup, 1) := by decide +kernel
theorem dX6_go_103 : decode cX6_go 103 = .ok (.getfield 132, 3) := by decide +kernel
theorem dX6_go_106 : decode cX6_go 106 = .ok (.iconst 1, 1) := by decide +kernel
theorem dX6_go_107 : decode cX6_go 107 = .ok (.iadd, 1) := by decide +kernel
theorem dX6_go_108 : decode cX6_go 108 = .ok (.putfield 132, 3) := by decide +kernel
theorem dX6_go_111 : decode cX6_go 111 = .ok (.aload_n 0, 1) := by decide +kernel
theorem dX6_go_112 : decode cX6_go 112 = .ok (.iload_n 1, 1) := by decide +kernel
theorem dX6_go_113 : decode cX6_go 113 = .ok (.iconst 1, 1) := by decide +kernel
theorem dX6_go_114 : decode cX6_go 114 = .ok (.invokevirtual 144, 3) := by decide +kernel
theorem dX6_go_117 : decode cX6_go 117 = .ok (.istore_n 3, 1) := by decide +kernel
theorem dX6_go_118 : decode cX6_go 118 = .ok (.iload_n 3, 1) := by decide +kernel
theorem dX6_go_119 : decode cX6_go 119 = .ok (.aload_n 0, 1) := by decide +kernel
theorem dX6_go_120 : decode cX6_go 120 = .ok (.getfield 67, 3) := by decide +kernel
theorem dX6_go_123 : decode cX6_go 123 = .ok (.if_icmp .ge 15, 3) := by decide +kernel
theorem dX6_go_126 : decode cX6_go 126 = .ok (.iload_n 3, 1) := by decide +kernel
theorem dX6_go_127 : decode cX6_go 127 = .ok (.istore_n 1, 1) := by decide +kernel
theorem dX6_go_128 : decode cX6_go 128 = .ok (.aload_n 0, 1) := by decide +kernel
theorem dX6_go_129 : decode cX6_go 129 = .ok (.getfield 39, 3) := by decide +kernel
theorem dX6_go_132 : decode cX6_go 132 = .ok (.iload_n 1, 1) := by decide +kernel
theorem dX6_go_133 : decode cX6_go 133 = .ok (.iconst (-1), 1) := by decide +kernel
theorem dX6_go_134 : decode cX6_go 134 = .ok (.iastore, 1) := by decide +kernel
theorem dX6_go_135 : decode cX6_go 135 = .ok (.goto 7, 3) := by decide +kernel
theorem dX6_go_138 : decode cX6_go 138 = .ok (.aload_n 0, 1) := by decide +kernel
theorem dX6_go_139 : decode cX6_go 139 = .ok (.invokevirtual 151, 3) := by decide +kernel
theorem dX6_go_142 : decode cX6_go 142 = .ok (.goto (-113), 3) := by decide +kernel
theorem dX6_go_145 : decode cX6_go 145 = .ok (.iconst 1, 1) := by decide +kernel
theorem dX6_go_146 : decode cX6_go 146 = .ok (.ireturn, 1) := by decide +kernel
theorem dX6_take_0 : decode cX6_take 0 = .ok (.aload_n 0, 1) := by decide +kernel
theorem dX6_take_1 : decode cX6_take 1 = .ok (.invokevirtual 154, 3) := by decide +kernel
theorem dX6_take_4 : decode cX6_take 4 = .ok (.istore_n 1, 1) := by decide +kernel
theorem dX6_take_5 : decode cX6_take 5 = .ok (.aload_n 0, 1) := by decide +kernel
theorem dX6_take_6 : decode cX6_take 6 = .ok (.getfield 135, 3) := by decide +kernel
theorem dX6_take_9 : decode cX6_take 9 = .ok (.iconst (-1), 1) := by decide +kernel
theorem dX6_take_10 : decode cX6_take 10 = .ok (.if_icmp .eq 11, 3) := by decide +kernel
theorem dX6_take_13 : decode cX6_take 13 = .ok (.iload_n 1, 1) := by decide +kernel
theorem dX6_take_14 : decode cX6_take 14 = .ok (.aload_n 0, 1) := by decide +kernel
theorem dX6_take_15 : decode cX6_take 15 = .ok (.getfield 135, 3) := by decide +kernel
theorem dX6_take_18 : decode cX6_take 18 = .ok (.if_icmp .ge 36, 3) := by decide +kernel
theorem dX6_take_21 : decode cX6_take 21 = .ok (.aload_n 0, 1) := by decide +kernel
theorem dX6_take_22 : decode cX6_take 22 = .ok (.iload_n 1, 1) := by decide +kernel
theorem dX6_take_23 : decode cX6_take 23 = .ok (.putfield 135, 3) := by decide +kernel
theorem dX6_take_26 : decode cX6_take 26 = .ok (.iconst 0, 1) := by decide +kernel
theorem dX6_take_27 : decode cX6_take 27 = .ok (.istore_n 2, 1) := by decide +kernel
theorem dX6_take_28 : decode cX6_take 28 = .ok (.iload_n 2, 1) := by decide +kernel
theorem dX6_take_29 : decode cX6_take 29 = .ok (.aload_n 0, 1) := by decide +kernel
theorem dX6_take_30 : decode cX6_take 30 = .ok (.getfield 67, 3) := by decide +kernel
theorem dX6_take_33 : decode cX6_take 33 = .ok (.if_icmp .ge 21, 3) := by decide +kernel
theorem dX6_take_36 : decode cX6_take 36 = .ok (.aload_n 0, 1) := by decide +kernel
theorem dX6_take_37 : decode cX6_take 37 = .ok (.getfield 42, 3) := by decide +kernel
theorem dX6_take_40 : decode cX6_take 40 = .ok (.iload_n 2, 1) := by decide +kernel
theorem dX6_take_41 : decode cX6_take 41 = .ok (.aload_n 0, 1) := by decide +kernel
theorem dX6_take_42 : decode cX6_take 42 = .ok (.getfield 39, 3) := by decide +kernel
theorem dX6_take_45 : decode cX6_take 45 = .ok (.iload_n 2, 1) := by decide +kernel
theorem dX6_take_46 : decode cX6_take 46 = .ok (.iaload, 1) := by decide +kernel
theorem dX6_take_47 : decode cX6_take 47 = .ok (.iastore, 1) := by decide +kernel
theorem dX6_take_48 : decode cX6_take 48 = .ok (.iinc 2 1, 3) := by decide +kernel
theorem dX6_take_51 : decode cX6_take 51 = .ok (.goto (-23), 3) := by decide +kernel
theorem dX6_take_54 : decode cX6_take 54 = .ok (.return_, 1) := by decide +kernel
theorem dX6_fewest_0 : decode cX6_fewest 0 = .ok (.aload_n 0, 1) := by decide +kernel
theorem dX6_fewest_1 : decode cX6_fewest 1 = .ok (.iconst 3, 1) := by decide +kernel
theorem dX6_fewest_2 : decode cX6_fewest 2 = .ok (.putfield 109, 3) := by decide +kernel
theorem dX6_fewest_5 : decode cX6_fewest 5 = .ok (.aload_n 0, 1) := by decide +kernel
theorem dX6_fewest_6 : decode cX6_fewest 6 = .ok (.invokevirtual 158, 3) := by decide +kernel
theorem dX6_fewest_9 : decode cX6_fewest 9 = .ok (.ifCond .eq 10, 3) := by decide +kernel
theorem dX6_fewest_12 : decode cX6_fewest 12 = .ok (.aload_n 0, 1) := by decide +kernel
theorem dX6_fewest_13 : decode cX6_fewest 13 = .ok (.getfield 135, 3) := by decide +kernel
theorem dX6_fewest_16 : decode cX6_fewest 16 = .ok (.goto 5, 3) := by decide +kernel
theorem dX6_fewest_19 : decode cX6_fewest 19 = .ok (.bipush (-5), 2) := by decide +kernel
theorem dX6_fewest_21 : decode cX6_fewest 21 = .ok (.ireturn, 1) := by decide +kernel
theorem dX6_plan_0 : decode cX6_plan 0 = .ok (.aload_n 0, 1) := by decide +kernel
theorem dX6_plan_1 : decode cX6_plan 1 = .ok (.iconst 0, 1) := by decide +kernel
theorem dX6_plan_2 : decode cX6_plan 2 = .ok (.putfield 88, 3) := by decide +kernel
theorem dX6_plan_5 : decode cX6_plan 5 = .ok (.iload_n 1, 1) := by decide +kernel
theorem dX6_plan_6 : decode cX6_plan 6 = .ok (.iconst 0, 1) := by decide +kernel
theorem dX6_plan_7 : decode cX6_plan 7 = .ok (.iconst 2, 1) := by decide +kernel
theorem dX6_plan_8 : decode cX6_plan 8 = .ok (.invokestatic 60, 3) := by decide +kernel
theorem dX6_plan_11 : decode cX6_plan 11 = .ok (.ifCond .eq 32, 3) := by decide +kernel
theorem dX6_plan_14 : decode cX6_plan 14 = .ok (.iload_n 1, 1) := by decide +kernel
theorem dX6_plan_15 : decode cX6_plan 15 = .ok (.iconst 2, 1) := by decide +kernel
theorem dX6_plan_16 : decode cX6_plan 16 = .ok (.if_icmp .ne 15, 3) := by decide +kernel
theorem dX6_plan_19 : decode cX6_plan 19 = .ok (.iload_n 3, 1) := by decide +kernel
theorem dX6_plan_20 : decode cX6_plan 20 = .ok (.iconst 1, 1) := by decide +kernel
theorem dX6_plan_21 : decode cX6_plan 21 = .ok (.iconst 5, 1) := by decide +kernel
theorem dX6_plan_22 : decode cX6_plan 22 = .ok (.invokestatic 60, 3) := by decide +kernel
theorem dX6_plan_25 : decode cX6_plan 25 = .ok (.ifCond .eq 18, 3) := by decide +kernel
theorem dX6_plan_28 : decode cX6_plan 28 = .ok (.goto 11, 3) := by decide +kernel
theorem dX6_plan_31 : decode cX6_plan 31 = .ok (.aload_n 0, 1) := by decide +kernel
theorem dX6_plan_32 : decode cX6_plan 32 = .ok (.iload_n 2, 1) := by decide +kernel
theorem dX6_plan_33 : decode cX6_plan 33 = .ok (.invokevirtual 73, 3) := by decide +kernel
theorem dX6_plan_36 : decode cX6_plan 36 = .ok (.ifCond .eq 7, 3) := by decide +kernel
theorem dX6_plan_39 : decode cX6_plan 39 = .ok (.iconst 1, 1) := by decide +kernel
theorem dX6_plan_40 : decode cX6_plan 40 = .ok (.goto 4, 3) := by decide +kernel
theorem dX6_plan_43 : decode cX6_plan 43 = .ok (.iconst 0, 1) := by decide +kernel
theorem dX6_plan_44 : decode cX6_plan 44 = .ok (.istore 5, 2) := by decide +kernel
theorem dX6_plan_46 : decode cX6_plan 46 = .ok (.iload 5, 2) := by decide +kernel
theorem dX6_plan_48 : decode cX6_plan 48 = .ok (.ifCond .eq 35, 3) := by decide +kernel
theorem dX6_plan_51 : decode cX6_plan 51 = .ok (.iload_n 1, 1) := by decide +kernel
theorem dX6_plan_52 : decode cX6_plan 52 = .ok (.iconst 1, 1) := by decide +kernel
theorem dX6_plan_53 : decode cX6_plan 53 = .ok (.if_icmp .ne 26, 3) := by decide +kernel
theorem dX6_plan_56 : decode cX6_plan 56 = .ok (.iload_n 3, 1) := by decide +kernel
theorem dX6_plan_57 : decode cX6_plan 57 = .ok (.iconst 0, 1) := by decide +kernel
theorem dX6_plan_58 : decode cX6_plan 58 = .ok (.sipush 1000, 3) := by decide +kernel
theorem dX6_plan_61 : decode cX6_plan 61 = .ok (.invokestatic 60, 3) := by decide +kernel
theorem dX6_plan_64 : decode cX6_plan 64 = .ok (.ifCond .eq 19, 3) := by decide +kernel
theorem dX6_plan_67 : decode cX6_plan 67 = .ok (.iload 4, 2) := by decide +kernel
theorem dX6_plan_69 : decode cX6_plan 69 = .ok (.iconst 0, 1) := by decide +kernel
theorem dX6_plan_70 : decode cX6_plan 70 = .ok (.sipush 1000, 3) := by decide +kernel
theorem dX6_plan_73 : decode cX6_plan 73 = .ok (.invokestatic 60, 3) := by decide +kernel
theorem dX6_plan_76 : decode cX6_plan 76 = .ok (.ifCond .eq 7, 3) := by decide +kernel
theorem dX6_plan_79 : decode cX6_plan 79 = .ok (.iconst 1, 1) := by decide +kernel
theorem dX6_plan_80 : decode cX6_plan 80 = .ok (.goto 4, 3) := by decide +kernel
theorem dX6_plan_83 : decode cX6_plan 83 = .ok (.iconst 0, 1) := by decide +kernel
theorem dX6_plan_84 : decode cX6_plan 84 = .ok (.istore 5, 2) := by decide +kernel
theorem dX6_plan_86 : decode cX6_plan 86 = .ok (.iload 5, 2) := by decide +kernel
theorem dX6_plan_88 : decode cX6_plan 88 = .ok (.ifCond .ne 6, 3) := by decide +kernel
theorem dX6_plan_91 : decode cX6_plan 91 = .ok (.bipush (-2), 2) := by decide +kernel
theorem dX6_plan_93 : decode cX6_plan 93 = .ok (.ireturn, 1) := by decide +kernel
theorem dX6_plan_94 : decode cX6_plan 94 = .ok (.aload_n 0, 1) := by decide +kernel
theorem dX6_plan_95 : decode cX6_plan 95 = .ok (.iload_n 1, 1) := by decide +kernel
theorem dX6_plan_96 : decode cX6_plan 96 = .ok (.putfield 109, 3) := by decide +kernel
theorem dX6_plan_99 : decode cX6_plan 99 = .ok (.aload_n 0, 1) := by decide +kernel
theorem dX6_plan_100 : decode cX6_plan 100 = .ok (.iload_n 2, 1) := by decide +kernel
theorem dX6_plan_101 : decode cX6_plan 101 = .ok (.putfield 112, 3) := by decide +kernel
theorem dX6_plan_104 : decode cX6_plan 104 = .ok (.aload_n 0, 1) := by decide +kernel
theorem dX6_plan_105 : decode cX6_plan 105 = .ok (.iload_n 3, 1) := by decide +kernel
theorem dX6_plan_106 : decode cX6_plan 106 = .ok (.putfield 115, 3) := by decide +kernel
theorem dX6_plan_109 : decode cX6_plan 109 = .ok (.aload_n 0, 1) := by decide +kernel
theorem dX6_plan_110 : decode cX6_plan 110 = .ok (.iload 4, 2) := by decide +kernel
theorem dX6_plan_112 : decode cX6_plan 112 = .ok (.putfield 118, 3) := by decide +kernel
theorem dX6_plan_115 : decode cX6_plan 115 = .ok (.aload_n 0, 1) := by decide +kernel
theorem dX6_plan_116 : decode cX6_plan 116 = .ok (.invokevirtual 158, 3) := by decide +kernel
theorem dX6_plan_119 : decode cX6_plan 119 = .ok (.ifCond .ne 6, 3) := by decide +kernel
theorem dX6_plan_122 : decode cX6_plan 122 = .ok (.bipush (-5), 2) := by decide +kernel
theorem dX6_plan_124 : decode cX6_plan 124 = .ok (.ireturn, 1) := by decide +kernel
theorem dX6_plan_125 : decode cX6_plan 125 = .ok (.aload_n 0, 1) := by decide +kernel
theorem dX6_plan_126 : decode cX6_plan 126 = .ok (.getfield 135, 3) := by decide +kernel
theorem dX6_plan_129 : decode cX6_plan 129 = .ok (.iconst (-1), 1) := by decide +kernel
theorem dX6_plan_130 : decode cX6_plan 130 = .ok (.if_icmp .ne 5, 3) := by decide +kernel
theorem dX6_plan_133 : decode cX6_plan 133 = .ok (.iconst (-1), 1) := by decide +kernel
theorem dX6_plan_134 : decode cX6_plan 134 = .ok (.ireturn, 1) := by decide +kernel
theorem dX6_plan_135 : decode cX6_plan 135 = .ok (.aload_n 0, 1) := by decide +kernel
theorem dX6_plan_136 : decode cX6_plan 136 = .ok (.iconst 1, 1) := by decide +kernel
theorem dX6_plan_137 : decode cX6_plan 137 = .ok (.putfield 88, 3) := by decide +kernel
theorem dX6_plan_140 : decode cX6_plan 140 = .ok (.iconst 0, 1) := by decide +kernel
theorem dX6_plan_141 : decode cX6_plan 141 = .ok (.istore 6, 2) := by decide +kernel
theorem dX6_plan_143 : decode cX6_plan 143 = .ok (.iload 6, 2) := by decide +kernel
theorem dX6_plan_145 : decode cX6_plan 145 = .ok (.aload_n 0, 1) := by decide +kernel
theorem dX6_plan_146 : decode cX6_plan 146 = .ok (.getfield 67, 3) := by decide +kernel
theorem dX6_plan_149 : decode cX6_plan 149 = .ok (.if_icmp .ge 37, 3) := by decide +kernel
theorem dX6_plan_152 : decode cX6_plan 152 = .ok (.aload_n 0, 1) := by decide +kernel
theorem dX6_plan_153 : decode cX6_plan 153 = .ok (.getfield 45, 3) := by decide +kernel
theorem dX6_plan_156 : decode cX6_plan 156 = .ok (.iload 6, 2) := by decide +kernel
theorem dX6_plan_158 : decode cX6_plan 158 = .ok (.aload_n 0, 1) := by decide +kernel
theorem dX6_plan_159 : decode cX6_plan 159 = .ok (.getfield 31, 3) := by decide +kernel
theorem dX6_plan_162 : decode cX6_plan 162 = .ok (.iload 6, 2) := by decide +kernel
theorem dX6_plan_164 : decode cX6_plan 164 = .ok (.baload, 1) := by decide +kernel
theorem dX6_plan_165 : decode cX6_plan 165 = .ok (.ifCond .eq 7, 3) := by decide +kernel
theorem dX6_plan_168 : decode cX6_plan 168 = .ok (.iconst (-1), 1) := by decide +kernel
theorem dX6_plan_169 : decode cX6_plan 169 = .ok (.goto 10, 3) := by decide +kernel
theorem dX6_plan_172 : decode cX6_plan 172 = .ok (.aload_n 0, 1) := by decide +kernel
theorem dX6_plan_173 : decode cX6_plan 173 = .ok (.getfield 42, 3) := by decide +kernel
theorem dX6_plan_176 : decode cX6_plan 176 = .ok (.iload 6, 2) := by decide +kernel
theorem dX6_plan_178 : decode cX6_plan 178 = .ok (.iaload, 1) := by decide +kernel
theorem dX6_plan_179 : decode cX6_plan 179 = .ok (.iastore, 1) := by decide +kernel
theorem dX6_plan_180 : decode cX6_plan 180 = .ok (.iinc 6 1, 3) := by decide +kernel
theorem dX6_plan_183 : decode cX6_plan 183 = .ok (.goto (-40), 3) := by decide +kernel
theorem dX6_plan_186 : decode cX6_plan 186 = .ok (.aload_n 0, 1) := by decide +kernel
theorem dX6_plan_187 : decode cX6_plan 187 = .ok (.getfield 135, 3) := by decide +kernel
theorem dX6_plan_190 : decode cX6_plan 190 = .ok (.ireturn, 1) := by decide +kernel
theorem dX6_planAt_0 : decode cX6_planAt 0 = .ok (.iload_n 1, 1) := by decide +kernel
theorem dX6_planAt_1 : decode cX6_planAt 1 = .ok (.iconst 0, 1) := by decide +kernel
theorem dX6_planAt_2 : decode cX6_planAt 2 = .ok (.aload_n 0, 1) := by decide +kernel
theorem dX6_planAt_3 : decode cX6_planAt 3 = .ok (.getfield 67, 3) := by decide +kernel
theorem dX6_planAt_6 : decode cX6_planAt 6 = .ok (.iconst 1, 1) := by decide +kernel
theorem dX6_planAt_7 : decode cX6_planAt 7 = .ok (.isub, 1) := by decide +kernel
theorem dX6_planAt_8 : decode cX6_planAt 8 = .ok (.invokestatic 60, 3) := by decide +kernel
theorem dX6_planAt_11 : decode cX6_planAt 11 = .ok (.ifCond .ne 6, 3) := by decide +kernel
theorem dX6_planAt_14 : decode cX6_planAt 14 = .ok (.bipush (-2), 2) := by decide +kernel
theorem dX6_planAt_16 : decode cX6_planAt 16 = .ok (.ireturn, 1) := by decide +kernel
theorem dX6_planAt_17 : decode cX6_planAt 17 = .ok (.aload_n 0, 1) := by decide +kernel
theorem dX6_planAt_18 : decode cX6_planAt 18 = .ok (.getfield 88, 3) := by decide +kernel
theorem dX6_planAt_21 : decode cX6_planAt 21 = .ok (.ifCond .eq 12, 3) := by decide +kernel
theorem dX6_planAt_24 : decode cX6_planAt 24 = .ok (.aload_n 0, 1) := by decide +kernel
theorem dX6_planAt_25 : decode cX6_planAt 25 = .ok (.getfield 45, 3) := by decide +kernel
theorem dX6_planAt_28 : decode cX6_planAt 28 = .ok (.iload_n 1, 1) := by decide +kernel
theorem dX6_planAt_29 : decode cX6_planAt 29 = .ok (.iaload, 1) := by decide +kernel
theorem dX6_planAt_30 : decode cX6_planAt 30 = .ok (.goto 5, 3) := by decide +kernel
theorem dX6_planAt_33 : decode cX6_planAt 33 = .ok (.bipush (-3), 2) := by decide +kernel
theorem dX6_planAt_35 : decode cX6_planAt 35 = .ok (.ireturn, 1) := by decide +kernel
theorem dX6_tries_0 : decode cX6_tries 0 = .ok (.aload_n 0, 1) := by decide +kernel
theorem dX6_tries_1 : decode cX6_tries 1 = .ok (.getfield 132, 3) := by decide +kernel
theorem dX6_tries_4 : decode cX6_tries 4 = .ok (.ireturn, 1) := by decide +kernel
theorem dX6_cost_0 : decode cX6_cost 0 = .ok (.aload_n 0, 1) := by decide +kernel
theorem dX6_cost_1 : decode cX6_cost 1 = .ok (.getfield 88, 3) := by decide +kernel
theorem dX6_cost_4 : decode cX6_cost 4 = .ok (.ifCond .ne 6, 3) := by decide +kernel
theorem dX6_cost_7 : decode cX6_cost 7 = .ok (.bipush (-3), 2) := by decide +kernel
theorem dX6_cost_9 : decode cX6_cost 9 = .ok (.ireturn, 1) := by decide +kernel
theorem dX6_cost_10 : decode cX6_cost 10 = .ok (.iconst 0, 1) := by decide +kernel
theorem dX6_cost_11 : decode cX6_cost 11 = .ok (.istore_n 1, 1) := by decide +kernel
theorem dX6_cost_12 : decode cX6_cost 12 = .ok (.iconst 0, 1) := by decide +kernel
theorem dX6_cost_13 : decode cX6_cost 13 = .ok (.istore_n 2, 1) := by decide +kernel
theorem dX6_cost_14 : decode cX6_cost 14 = .ok (.iload_n 2, 1) := by decide +kernel
theorem dX6_cost_15 : decode cX6_cost 15 = .ok (.aload_n 0, 1) := by decide +kernel
theorem dX6_cost_16 : decode cX6_cost 16 = .ok (.getfield 67, 3) := by decide +kernel
theorem dX6_cost_19 : decode cX6_cost 19 = .ok (.if_icmp .ge 44, 3) := by decide +kernel
theorem dX6_cost_22 : decode cX6_cost 22 = .ok (.iload_n 1, 1) := by decide +kernel
theorem dX6_cost_23 : decode cX6_cost 23 = .ok (.aload_n 0, 1) := by decide +kernel
theorem dX6_cost_24 : decode cX6_cost 24 = .ok (.iload_n 2, 1) := by decide +kernel
theorem dX6_cost_25 : decode cX6_cost 25 = .ok (.invokevirtual 129, 3) := by decide +kernel
theorem dX6_cost_28 : decode cX6_cost 28 = .ok (.ifCond .eq 26, 3) := by decide +kernel
theorem dX6_cost_31 : decode cX6_cost 31 = .ok (.aload_n 0, 1) := by decide +kernel
theorem dX6_cost_32 : decode cX6_cost 32 = .ok (.getfield 45, 3) := by decide +kernel
theorem dX6_cost_35 : decode cX6_cost 35 = .ok (.iload_n 2, 1) := by decide +kernel
theorem dX6_cost_36 : decode cX6_cost 36 = .ok (.iaload, 1) := by decide +kernel
theorem dX6_cost_37 : decode cX6_cost 37 = .ok (.aload_n 0, 1) := by decide +kernel
theorem dX6_cost_38 : decode cX6_cost 38 = .ok (.getfield 28, 3) := by decide +kernel
